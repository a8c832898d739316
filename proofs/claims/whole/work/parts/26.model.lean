/-! PURE: the reference's constructor -/
def mpat : List (Option (Option Nat)) := [none, none, none, none, none, none, none, none, none, some none, none, some none, some none, some none, some none, some none, some none, some none, some none, some none, some none, some none, some none, some none, some none, some none, some none, some none, some none, some none, some none, some none, some none, some none, some none, some none, some none, some none, some none, some none, some none, some none, some none, some none, some none, some none, some none, some none, some none, some none, some none, some none, some none, some none, some none, some none, some none, some none, some none, some none, some none, some none, some none, some none, some none, some none, some none, some none, some none, some none, some none, some none, some none, some none, some none, some none, some none, some none, some none, some none, some none, some none]
def mAS : List (Nat × Nat × Nat) := [(9, 0, 120), (11, 0, 6), (12, 0, 6), (13, 0, 6), (14, 0, 6), (15, 0, 6), (16, 0, 6), (17, 0, 6), (18, 0, 6), (19, 0, 6), (20, 0, 6), (21, 1, 6), (22, 1, 6), (23, 0, 3), (24, 1, 192), (25, 0, 192), (26, 0, 192), (27, 0, 192), (28, 0, 23040), (29, 0, 26400), (30, 0, 26400), (31, 0, 6), (32, 1, 26400), (33, 1, 26400), (34, 0, 96), (35, 0, 96), (36, 0, 23040), (37, 0, 23040), (38, 1, 96), (39, 1, 23040), (40, 1, 23040), (41, 1, 23040), (42, 0, 6), (43, 0, 6), (44, 0, 6), (45, 0, 6), (46, 0, 6), (47, 0, 6), (48, 0, 6), (49, 0, 6), (50, 0, 6), (51, 0, 6), (52, 1, 6), (53, 0, 192), (54, 0, 46080), (55, 1, 46080), (56, 1, 46080), (57, 1, 46080), (58, 0, 6), (59, 0, 1536), (60, 0, 6), (61, 0, 6), (62, 0, 6), (63, 0, 6), (64, 0, 6), (65, 0, 192), (66, 0, 23040), (67, 0, 720), (68, 1, 192), (69, 0, 8), (70, 0, 8), (71, 0, 2000), (72, 1, 8), (73, 0, 2), (74, 0, 500), (75, 0, 250), (76, 0, 256), (77, 0, 176), (78, 0, 16), (79, 0, 16), (80, 0, 128), (81, 0, 250)]
set_option maxRecDepth 100000 in
theorem mch11 {kA : Nat → ClassId} {G0 G : GG} {a0 : Nat} {x y : Int32} {Q : GG → Sg → Prop} (hM : Mid kA G0 G 0 9 mpat [(9, 0, 120), (11, 0, 6), (12, 0, 6), (13, 0, 6), (14, 0, 6), (15, 0, 6), (16, 0, 6), (17, 0, 6), (18, 0, 6), (19, 0, 6), (20, 0, 6), (21, 1, 6), (22, 1, 6), (23, 0, 3), (24, 1, 192), (25, 0, 192), (26, 0, 192), (27, 0, 192), (28, 0, 23040), (29, 0, 26400), (30, 0, 26400), (31, 0, 6), (32, 1, 26400), (33, 1, 26400), (34, 0, 96), (35, 0, 96), (36, 0, 23040), (37, 0, 23040), (38, 1, 96), (39, 1, 23040), (40, 1, 23040), (41, 1, 23040), (42, 0, 6), (43, 0, 6), (44, 0, 6), (45, 0, 6), (46, 0, 6), (47, 0, 6), (48, 0, 6), (49, 0, 6), (50, 0, 6), (51, 0, 6), (52, 1, 6), (53, 0, 192), (54, 0, 46080), (55, 1, 46080), (56, 1, 46080), (57, 1, 46080), (58, 0, 6), (59, 0, 1536), (60, 0, 6), (61, 0, 6), (62, 0, 6), (63, 0, 6), (64, 0, 6), (65, 0, 192), (66, 0, 23040), (67, 0, 720), (68, 1, 192), (69, 0, 8), (70, 0, 8), (71, 0, 2000), (72, 1, 8), (73, 0, 2), (74, 0, 500), (75, 0, 250)]) (ha : ga G0 0 = a0) (hQ : ∀ G1, Mid kA G0 G1 0 9 mpat mAS → wpX9_init_L605 kA Q a0 x y G1 (fun _ _ => 0) 72 459009) : wpX9_init_L553 kA Q a0 x y G (fun _ _ => 0) 66 458167 := by
  unfold wpX9_init_L553
  subst ha
  refine ⟨by decide, by decide, ?_⟩
  intro a0 G0 σ0 e0 es0
  have hs0 : σ0 = fun _ _ => 0 := by rw [es0]; exact Zr0.up (fun c _ => rfl)
  subst hs0
  subst e0
  refine ⟨0, _, hM.ae _ _, hM.oe _ _, by rw [patM_len]; decide, ?_⟩
  intro H0 f0
  replace hM := hM.step a0 76 0 256
  rw [← f0] at hM
  clear f0 es0
  refine ⟨by decide, by decide, ?_⟩
  intro a1 G1 σ1 e1 es1
  have hs1 : σ1 = fun _ _ => 0 := by rw [es1]; exact Zr0.up (fun c _ => rfl)
  subst hs1
  subst e1
  refine ⟨0, _, hM.ae _ _, hM.oe _ _, by rw [patM_len]; decide, ?_⟩
  intro H1 f1
  replace hM := hM.step a1 77 0 176
  rw [← f1] at hM
  clear f1 es1
  refine ⟨by decide, by decide, ?_⟩
  intro a2 G2 σ2 e2 es2
  have hs2 : σ2 = fun _ _ => 0 := by rw [es2]; exact Zr0.up (fun c _ => rfl)
  subst hs2
  subst e2
  refine ⟨0, _, hM.ae _ _, hM.oe _ _, by rw [patM_len]; decide, ?_⟩
  intro H2 f2
  replace hM := hM.step a2 78 0 16
  rw [← f2] at hM
  clear f2 es2
  refine ⟨by decide, by decide, ?_⟩
  intro a3 G3 σ3 e3 es3
  have hs3 : σ3 = fun _ _ => 0 := by rw [es3]; exact Zr0.up (fun c _ => rfl)
  subst hs3
  subst e3
  refine ⟨0, _, hM.ae _ _, hM.oe _ _, by rw [patM_len]; decide, ?_⟩
  intro H3 f3
  replace hM := hM.step a3 79 0 16
  rw [← f3] at hM
  clear f3 es3
  refine ⟨by decide, by decide, ?_⟩
  intro a4 G4 σ4 e4 es4
  have hs4 : σ4 = fun _ _ => 0 := by rw [es4]; exact Zr0.up (fun c _ => rfl)
  subst hs4
  subst e4
  refine ⟨0, _, hM.ae _ _, hM.oe _ _, by rw [patM_len]; decide, ?_⟩
  intro H4 f4
  replace hM := hM.step a4 80 0 128
  rw [← f4] at hM
  clear f4 es4
  refine ⟨by decide, by decide, ?_⟩
  intro a5 G5 σ5 e5 es5
  have hs5 : σ5 = fun _ _ => 0 := by rw [es5]; exact Zr0.up (fun c _ => rfl)
  subst hs5
  subst e5
  refine ⟨0, _, hM.ae _ _, hM.oe _ _, by rw [patM_len]; decide, ?_⟩
  intro H5 f5
  replace hM := hM.step a5 81 0 250
  rw [← f5] at hM
  clear f5 es5
  exact hQ _ hM
set_option maxRecDepth 100000 in
theorem mch10 {kA : Nat → ClassId} {G0 G : GG} {a0 : Nat} {x y : Int32} {Q : GG → Sg → Prop} (hM : Mid kA G0 G 0 9 mpat [(9, 0, 120), (11, 0, 6), (12, 0, 6), (13, 0, 6), (14, 0, 6), (15, 0, 6), (16, 0, 6), (17, 0, 6), (18, 0, 6), (19, 0, 6), (20, 0, 6), (21, 1, 6), (22, 1, 6), (23, 0, 3), (24, 1, 192), (25, 0, 192), (26, 0, 192), (27, 0, 192), (28, 0, 23040), (29, 0, 26400), (30, 0, 26400), (31, 0, 6), (32, 1, 26400), (33, 1, 26400), (34, 0, 96), (35, 0, 96), (36, 0, 23040), (37, 0, 23040), (38, 1, 96), (39, 1, 23040), (40, 1, 23040), (41, 1, 23040), (42, 0, 6), (43, 0, 6), (44, 0, 6), (45, 0, 6), (46, 0, 6), (47, 0, 6), (48, 0, 6), (49, 0, 6), (50, 0, 6), (51, 0, 6), (52, 1, 6), (53, 0, 192), (54, 0, 46080), (55, 1, 46080), (56, 1, 46080), (57, 1, 46080), (58, 0, 6), (59, 0, 1536), (60, 0, 6), (61, 0, 6), (62, 0, 6), (63, 0, 6), (64, 0, 6), (65, 0, 192), (66, 0, 23040), (67, 0, 720), (68, 1, 192), (69, 0, 8)]) (ha : ga G0 0 = a0) (hQ : ∀ G1, Mid kA G0 G1 0 9 mpat mAS → wpX9_init_L605 kA Q a0 x y G1 (fun _ _ => 0) 72 459009) : wpX9_init_L503 kA Q a0 x y G (fun _ _ => 0) 60 455399 := by
  unfold wpX9_init_L503
  subst ha
  refine ⟨by decide, by decide, ?_⟩
  intro a0 G0 σ0 e0 es0
  have hs0 : σ0 = fun _ _ => 0 := by rw [es0]; exact Zr0.up (fun c _ => rfl)
  subst hs0
  subst e0
  refine ⟨0, _, hM.ae _ _, hM.oe _ _, by rw [patM_len]; decide, ?_⟩
  intro H0 f0
  replace hM := hM.step a0 70 0 8
  rw [← f0] at hM
  clear f0 es0
  refine ⟨by decide, by decide, ?_⟩
  intro a1 G1 σ1 e1 es1
  have hs1 : σ1 = fun _ _ => 0 := by rw [es1]; exact Zr0.up (fun c _ => rfl)
  subst hs1
  subst e1
  refine ⟨0, _, hM.ae _ _, hM.oe _ _, by rw [patM_len]; decide, ?_⟩
  intro H1 f1
  replace hM := hM.step a1 71 0 2000
  rw [← f1] at hM
  clear f1 es1
  refine ⟨by decide, by decide, ?_⟩
  intro a2 G2 σ2 e2 es2
  have hs2 : σ2 = fun _ _ => 0 := by rw [es2]; exact Zr0.up (fun c _ => rfl)
  subst hs2
  subst e2
  refine ⟨0, _, hM.ae _ _, hM.oe _ _, by rw [patM_len]; decide, ?_⟩
  intro H2 f2
  replace hM := hM.step a2 72 1 8
  rw [← f2] at hM
  clear f2 es2
  refine ⟨by decide, by decide, ?_⟩
  intro a3 G3 σ3 e3 es3
  have hs3 : σ3 = fun _ _ => 0 := by rw [es3]; exact Zr0.up (fun c _ => rfl)
  subst hs3
  subst e3
  refine ⟨0, _, hM.ae _ _, hM.oe _ _, by rw [patM_len]; decide, ?_⟩
  intro H3 f3
  replace hM := hM.step a3 73 0 2
  rw [← f3] at hM
  clear f3 es3
  refine ⟨by decide, by decide, ?_⟩
  intro a4 G4 σ4 e4 es4
  have hs4 : σ4 = fun _ _ => 0 := by rw [es4]; exact Zr0.up (fun c _ => rfl)
  subst hs4
  subst e4
  refine ⟨0, _, hM.ae _ _, hM.oe _ _, by rw [patM_len]; decide, ?_⟩
  intro H4 f4
  replace hM := hM.step a4 74 0 500
  rw [← f4] at hM
  clear f4 es4
  refine ⟨by decide, by decide, ?_⟩
  intro a5 G5 σ5 e5 es5
  have hs5 : σ5 = fun _ _ => 0 := by rw [es5]; exact Zr0.up (fun c _ => rfl)
  subst hs5
  subst e5
  refine ⟨0, _, hM.ae _ _, hM.oe _ _, by rw [patM_len]; decide, ?_⟩
  intro H5 f5
  replace hM := hM.step a5 75 0 250
  rw [← f5] at hM
  clear f5 es5
  exact mch11 (G0 := G0) hM rfl hQ
set_option maxRecDepth 100000 in
theorem mch9 {kA : Nat → ClassId} {G0 G : GG} {a0 : Nat} {x y : Int32} {Q : GG → Sg → Prop} (hM : Mid kA G0 G 0 9 mpat [(9, 0, 120), (11, 0, 6), (12, 0, 6), (13, 0, 6), (14, 0, 6), (15, 0, 6), (16, 0, 6), (17, 0, 6), (18, 0, 6), (19, 0, 6), (20, 0, 6), (21, 1, 6), (22, 1, 6), (23, 0, 3), (24, 1, 192), (25, 0, 192), (26, 0, 192), (27, 0, 192), (28, 0, 23040), (29, 0, 26400), (30, 0, 26400), (31, 0, 6), (32, 1, 26400), (33, 1, 26400), (34, 0, 96), (35, 0, 96), (36, 0, 23040), (37, 0, 23040), (38, 1, 96), (39, 1, 23040), (40, 1, 23040), (41, 1, 23040), (42, 0, 6), (43, 0, 6), (44, 0, 6), (45, 0, 6), (46, 0, 6), (47, 0, 6), (48, 0, 6), (49, 0, 6), (50, 0, 6), (51, 0, 6), (52, 1, 6), (53, 0, 192), (54, 0, 46080), (55, 1, 46080), (56, 1, 46080), (57, 1, 46080), (58, 0, 6), (59, 0, 1536), (60, 0, 6), (61, 0, 6), (62, 0, 6), (63, 0, 6)]) (ha : ga G0 0 = a0) (hQ : ∀ G1, Mid kA G0 G1 0 9 mpat mAS → wpX9_init_L605 kA Q a0 x y G1 (fun _ _ => 0) 72 459009) : wpX9_init_L451 kA Q a0 x y G (fun _ _ => 0) 54 431241 := by
  unfold wpX9_init_L451
  subst ha
  refine ⟨by decide, by decide, ?_⟩
  intro a0 G0 σ0 e0 es0
  have hs0 : σ0 = fun _ _ => 0 := by rw [es0]; exact Zr0.up (fun c _ => rfl)
  subst hs0
  subst e0
  refine ⟨0, _, hM.ae _ _, hM.oe _ _, by rw [patM_len]; decide, ?_⟩
  intro H0 f0
  replace hM := hM.step a0 64 0 6
  rw [← f0] at hM
  clear f0 es0
  refine ⟨by decide, by decide, ?_⟩
  intro a1 G1 σ1 e1 es1
  have hs1 : σ1 = fun _ _ => 0 := by rw [es1]; exact Zr0.up (fun c _ => rfl)
  subst hs1
  subst e1
  refine ⟨0, _, hM.ae _ _, hM.oe _ _, by rw [patM_len]; decide, ?_⟩
  intro H1 f1
  replace hM := hM.step a1 65 0 192
  rw [← f1] at hM
  clear f1 es1
  refine ⟨by decide, by decide, ?_⟩
  intro a2 G2 σ2 e2 es2
  have hs2 : σ2 = fun _ _ => 0 := by rw [es2]; exact Zr0.up (fun c _ => rfl)
  subst hs2
  subst e2
  refine ⟨0, _, hM.ae _ _, hM.oe _ _, by rw [patM_len]; decide, ?_⟩
  intro H2 f2
  replace hM := hM.step a2 66 0 23040
  rw [← f2] at hM
  clear f2 es2
  refine ⟨by decide, by decide, ?_⟩
  intro a3 G3 σ3 e3 es3
  have hs3 : σ3 = fun _ _ => 0 := by rw [es3]; exact Zr0.up (fun c _ => rfl)
  subst hs3
  subst e3
  refine ⟨0, _, hM.ae _ _, hM.oe _ _, by rw [patM_len]; decide, ?_⟩
  intro H3 f3
  replace hM := hM.step a3 67 0 720
  rw [← f3] at hM
  clear f3 es3
  refine ⟨by decide, by decide, ?_⟩
  intro a4 G4 σ4 e4 es4
  have hs4 : σ4 = fun _ _ => 0 := by rw [es4]; exact Zr0.up (fun c _ => rfl)
  subst hs4
  subst e4
  refine ⟨0, _, hM.ae _ _, hM.oe _ _, by rw [patM_len]; decide, ?_⟩
  intro H4 f4
  replace hM := hM.step a4 68 1 192
  rw [← f4] at hM
  clear f4 es4
  refine ⟨by decide, by decide, ?_⟩
  intro a5 G5 σ5 e5 es5
  have hs5 : σ5 = fun _ _ => 0 := by rw [es5]; exact Zr0.up (fun c _ => rfl)
  subst hs5
  subst e5
  refine ⟨0, _, hM.ae _ _, hM.oe _ _, by rw [patM_len]; decide, ?_⟩
  intro H5 f5
  replace hM := hM.step a5 69 0 8
  rw [← f5] at hM
  clear f5 es5
  exact mch10 (G0 := G0) hM rfl hQ
set_option maxRecDepth 100000 in
theorem mch8 {kA : Nat → ClassId} {G0 G : GG} {a0 : Nat} {x y : Int32} {Q : GG → Sg → Prop} (hM : Mid kA G0 G 0 9 mpat [(9, 0, 120), (11, 0, 6), (12, 0, 6), (13, 0, 6), (14, 0, 6), (15, 0, 6), (16, 0, 6), (17, 0, 6), (18, 0, 6), (19, 0, 6), (20, 0, 6), (21, 1, 6), (22, 1, 6), (23, 0, 3), (24, 1, 192), (25, 0, 192), (26, 0, 192), (27, 0, 192), (28, 0, 23040), (29, 0, 26400), (30, 0, 26400), (31, 0, 6), (32, 1, 26400), (33, 1, 26400), (34, 0, 96), (35, 0, 96), (36, 0, 23040), (37, 0, 23040), (38, 1, 96), (39, 1, 23040), (40, 1, 23040), (41, 1, 23040), (42, 0, 6), (43, 0, 6), (44, 0, 6), (45, 0, 6), (46, 0, 6), (47, 0, 6), (48, 0, 6), (49, 0, 6), (50, 0, 6), (51, 0, 6), (52, 1, 6), (53, 0, 192), (54, 0, 46080), (55, 1, 46080), (56, 1, 46080), (57, 1, 46080)]) (ha : ga G0 0 = a0) (hQ : ∀ G1, Mid kA G0 G1 0 9 mpat mAS → wpX9_init_L605 kA Q a0 x y G1 (fun _ _ => 0) 72 459009) : wpX9_init_L402 kA Q a0 x y G (fun _ _ => 0) 48 429675 := by
  unfold wpX9_init_L402
  subst ha
  refine ⟨by decide, by decide, ?_⟩
  intro a0 G0 σ0 e0 es0
  have hs0 : σ0 = fun _ _ => 0 := by rw [es0]; exact Zr0.up (fun c _ => rfl)
  subst hs0
  subst e0
  refine ⟨0, _, hM.ae _ _, hM.oe _ _, by rw [patM_len]; decide, ?_⟩
  intro H0 f0
  replace hM := hM.step a0 58 0 6
  rw [← f0] at hM
  clear f0 es0
  refine ⟨by decide, by decide, ?_⟩
  intro a1 G1 σ1 e1 es1
  have hs1 : σ1 = fun _ _ => 0 := by rw [es1]; exact Zr0.up (fun c _ => rfl)
  subst hs1
  subst e1
  refine ⟨0, _, hM.ae _ _, hM.oe _ _, by rw [patM_len]; decide, ?_⟩
  intro H1 f1
  replace hM := hM.step a1 59 0 1536
  rw [← f1] at hM
  clear f1 es1
  refine ⟨by decide, by decide, ?_⟩
  intro a2 G2 σ2 e2 es2
  have hs2 : σ2 = fun _ _ => 0 := by rw [es2]; exact Zr0.up (fun c _ => rfl)
  subst hs2
  subst e2
  refine ⟨0, _, hM.ae _ _, hM.oe _ _, by rw [patM_len]; decide, ?_⟩
  intro H2 f2
  replace hM := hM.step a2 60 0 6
  rw [← f2] at hM
  clear f2 es2
  refine ⟨by decide, by decide, ?_⟩
  intro a3 G3 σ3 e3 es3
  have hs3 : σ3 = fun _ _ => 0 := by rw [es3]; exact Zr0.up (fun c _ => rfl)
  subst hs3
  subst e3
  refine ⟨0, _, hM.ae _ _, hM.oe _ _, by rw [patM_len]; decide, ?_⟩
  intro H3 f3
  replace hM := hM.step a3 61 0 6
  rw [← f3] at hM
  clear f3 es3
  refine ⟨by decide, by decide, ?_⟩
  intro a4 G4 σ4 e4 es4
  have hs4 : σ4 = fun _ _ => 0 := by rw [es4]; exact Zr0.up (fun c _ => rfl)
  subst hs4
  subst e4
  refine ⟨0, _, hM.ae _ _, hM.oe _ _, by rw [patM_len]; decide, ?_⟩
  intro H4 f4
  replace hM := hM.step a4 62 0 6
  rw [← f4] at hM
  clear f4 es4
  refine ⟨by decide, by decide, ?_⟩
  intro a5 G5 σ5 e5 es5
  have hs5 : σ5 = fun _ _ => 0 := by rw [es5]; exact Zr0.up (fun c _ => rfl)
  subst hs5
  subst e5
  refine ⟨0, _, hM.ae _ _, hM.oe _ _, by rw [patM_len]; decide, ?_⟩
  intro H5 f5
  replace hM := hM.step a5 63 0 6
  rw [← f5] at hM
  clear f5 es5
  exact mch9 (G0 := G0) hM rfl hQ
set_option maxRecDepth 100000 in
theorem mch7 {kA : Nat → ClassId} {G0 G : GG} {a0 : Nat} {x y : Int32} {Q : GG → Sg → Prop} (hM : Mid kA G0 G 0 9 mpat [(9, 0, 120), (11, 0, 6), (12, 0, 6), (13, 0, 6), (14, 0, 6), (15, 0, 6), (16, 0, 6), (17, 0, 6), (18, 0, 6), (19, 0, 6), (20, 0, 6), (21, 1, 6), (22, 1, 6), (23, 0, 3), (24, 1, 192), (25, 0, 192), (26, 0, 192), (27, 0, 192), (28, 0, 23040), (29, 0, 26400), (30, 0, 26400), (31, 0, 6), (32, 1, 26400), (33, 1, 26400), (34, 0, 96), (35, 0, 96), (36, 0, 23040), (37, 0, 23040), (38, 1, 96), (39, 1, 23040), (40, 1, 23040), (41, 1, 23040), (42, 0, 6), (43, 0, 6), (44, 0, 6), (45, 0, 6), (46, 0, 6), (47, 0, 6), (48, 0, 6), (49, 0, 6), (50, 0, 6), (51, 0, 6)]) (ha : ga G0 0 = a0) (hQ : ∀ G1, Mid kA G0 G1 0 9 mpat mAS → wpX9_init_L605 kA Q a0 x y G1 (fun _ _ => 0) 72 459009) : wpX9_init_L353 kA Q a0 x y G (fun _ _ => 0) 42 245157 := by
  unfold wpX9_init_L353
  subst ha
  refine ⟨by decide, by decide, ?_⟩
  intro a0 G0 σ0 e0 es0
  have hs0 : σ0 = fun _ _ => 0 := by rw [es0]; exact Zr0.up (fun c _ => rfl)
  subst hs0
  subst e0
  refine ⟨0, _, hM.ae _ _, hM.oe _ _, by rw [patM_len]; decide, ?_⟩
  intro H0 f0
  replace hM := hM.step a0 52 1 6
  rw [← f0] at hM
  clear f0 es0
  refine ⟨by decide, by decide, ?_⟩
  intro a1 G1 σ1 e1 es1
  have hs1 : σ1 = fun _ _ => 0 := by rw [es1]; exact Zr0.up (fun c _ => rfl)
  subst hs1
  subst e1
  refine ⟨0, _, hM.ae _ _, hM.oe _ _, by rw [patM_len]; decide, ?_⟩
  intro H1 f1
  replace hM := hM.step a1 53 0 192
  rw [← f1] at hM
  clear f1 es1
  refine ⟨by decide, by decide, ?_⟩
  intro a2 G2 σ2 e2 es2
  have hs2 : σ2 = fun _ _ => 0 := by rw [es2]; exact Zr0.up (fun c _ => rfl)
  subst hs2
  subst e2
  refine ⟨0, _, hM.ae _ _, hM.oe _ _, by rw [patM_len]; decide, ?_⟩
  intro H2 f2
  replace hM := hM.step a2 54 0 46080
  rw [← f2] at hM
  clear f2 es2
  refine ⟨by decide, by decide, ?_⟩
  intro a3 G3 σ3 e3 es3
  have hs3 : σ3 = fun _ _ => 0 := by rw [es3]; exact Zr0.up (fun c _ => rfl)
  subst hs3
  subst e3
  refine ⟨0, _, hM.ae _ _, hM.oe _ _, by rw [patM_len]; decide, ?_⟩
  intro H3 f3
  replace hM := hM.step a3 55 1 46080
  rw [← f3] at hM
  clear f3 es3
  refine ⟨by decide, by decide, ?_⟩
  intro a4 G4 σ4 e4 es4
  have hs4 : σ4 = fun _ _ => 0 := by rw [es4]; exact Zr0.up (fun c _ => rfl)
  subst hs4
  subst e4
  refine ⟨0, _, hM.ae _ _, hM.oe _ _, by rw [patM_len]; decide, ?_⟩
  intro H4 f4
  replace hM := hM.step a4 56 1 46080
  rw [← f4] at hM
  clear f4 es4
  refine ⟨by decide, by decide, ?_⟩
  intro a5 G5 σ5 e5 es5
  have hs5 : σ5 = fun _ _ => 0 := by rw [es5]; exact Zr0.up (fun c _ => rfl)
  subst hs5
  subst e5
  refine ⟨0, _, hM.ae _ _, hM.oe _ _, by rw [patM_len]; decide, ?_⟩
  intro H5 f5
  replace hM := hM.step a5 57 1 46080
  rw [← f5] at hM
  clear f5 es5
  exact mch8 (G0 := G0) hM rfl hQ
set_option maxRecDepth 100000 in
theorem mch6 {kA : Nat → ClassId} {G0 G : GG} {a0 : Nat} {x y : Int32} {Q : GG → Sg → Prop} (hM : Mid kA G0 G 0 9 mpat [(9, 0, 120), (11, 0, 6), (12, 0, 6), (13, 0, 6), (14, 0, 6), (15, 0, 6), (16, 0, 6), (17, 0, 6), (18, 0, 6), (19, 0, 6), (20, 0, 6), (21, 1, 6), (22, 1, 6), (23, 0, 3), (24, 1, 192), (25, 0, 192), (26, 0, 192), (27, 0, 192), (28, 0, 23040), (29, 0, 26400), (30, 0, 26400), (31, 0, 6), (32, 1, 26400), (33, 1, 26400), (34, 0, 96), (35, 0, 96), (36, 0, 23040), (37, 0, 23040), (38, 1, 96), (39, 1, 23040), (40, 1, 23040), (41, 1, 23040), (42, 0, 6), (43, 0, 6), (44, 0, 6), (45, 0, 6)]) (ha : ga G0 0 = a0) (hQ : ∀ G1, Mid kA G0 G1 0 9 mpat mAS → wpX9_init_L605 kA Q a0 x y G1 (fun _ _ => 0) 72 459009) : wpX9_init_L305 kA Q a0 x y G (fun _ _ => 0) 36 245121 := by
  unfold wpX9_init_L305
  subst ha
  refine ⟨by decide, by decide, ?_⟩
  intro a0 G0 σ0 e0 es0
  have hs0 : σ0 = fun _ _ => 0 := by rw [es0]; exact Zr0.up (fun c _ => rfl)
  subst hs0
  subst e0
  refine ⟨0, _, hM.ae _ _, hM.oe _ _, by rw [patM_len]; decide, ?_⟩
  intro H0 f0
  replace hM := hM.step a0 46 0 6
  rw [← f0] at hM
  clear f0 es0
  refine ⟨by decide, by decide, ?_⟩
  intro a1 G1 σ1 e1 es1
  have hs1 : σ1 = fun _ _ => 0 := by rw [es1]; exact Zr0.up (fun c _ => rfl)
  subst hs1
  subst e1
  refine ⟨0, _, hM.ae _ _, hM.oe _ _, by rw [patM_len]; decide, ?_⟩
  intro H1 f1
  replace hM := hM.step a1 47 0 6
  rw [← f1] at hM
  clear f1 es1
  refine ⟨by decide, by decide, ?_⟩
  intro a2 G2 σ2 e2 es2
  have hs2 : σ2 = fun _ _ => 0 := by rw [es2]; exact Zr0.up (fun c _ => rfl)
  subst hs2
  subst e2
  refine ⟨0, _, hM.ae _ _, hM.oe _ _, by rw [patM_len]; decide, ?_⟩
  intro H2 f2
  replace hM := hM.step a2 48 0 6
  rw [← f2] at hM
  clear f2 es2
  refine ⟨by decide, by decide, ?_⟩
  intro a3 G3 σ3 e3 es3
  have hs3 : σ3 = fun _ _ => 0 := by rw [es3]; exact Zr0.up (fun c _ => rfl)
  subst hs3
  subst e3
  refine ⟨0, _, hM.ae _ _, hM.oe _ _, by rw [patM_len]; decide, ?_⟩
  intro H3 f3
  replace hM := hM.step a3 49 0 6
  rw [← f3] at hM
  clear f3 es3
  refine ⟨by decide, by decide, ?_⟩
  intro a4 G4 σ4 e4 es4
  have hs4 : σ4 = fun _ _ => 0 := by rw [es4]; exact Zr0.up (fun c _ => rfl)
  subst hs4
  subst e4
  refine ⟨0, _, hM.ae _ _, hM.oe _ _, by rw [patM_len]; decide, ?_⟩
  intro H4 f4
  replace hM := hM.step a4 50 0 6
  rw [← f4] at hM
  clear f4 es4
  refine ⟨by decide, by decide, ?_⟩
  intro a5 G5 σ5 e5 es5
  have hs5 : σ5 = fun _ _ => 0 := by rw [es5]; exact Zr0.up (fun c _ => rfl)
  subst hs5
  subst e5
  refine ⟨0, _, hM.ae _ _, hM.oe _ _, by rw [patM_len]; decide, ?_⟩
  intro H5 f5
  replace hM := hM.step a5 51 0 6
  rw [← f5] at hM
  clear f5 es5
  exact mch7 (G0 := G0) hM rfl hQ
set_option maxRecDepth 100000 in
theorem mch5 {kA : Nat → ClassId} {G0 G : GG} {a0 : Nat} {x y : Int32} {Q : GG → Sg → Prop} (hM : Mid kA G0 G 0 9 mpat [(9, 0, 120), (11, 0, 6), (12, 0, 6), (13, 0, 6), (14, 0, 6), (15, 0, 6), (16, 0, 6), (17, 0, 6), (18, 0, 6), (19, 0, 6), (20, 0, 6), (21, 1, 6), (22, 1, 6), (23, 0, 3), (24, 1, 192), (25, 0, 192), (26, 0, 192), (27, 0, 192), (28, 0, 23040), (29, 0, 26400), (30, 0, 26400), (31, 0, 6), (32, 1, 26400), (33, 1, 26400), (34, 0, 96), (35, 0, 96), (36, 0, 23040), (37, 0, 23040), (38, 1, 96), (39, 1, 23040)]) (ha : ga G0 0 = a0) (hQ : ∀ G1, Mid kA G0 G1 0 9 mpat mAS → wpX9_init_L605 kA Q a0 x y G1 (fun _ _ => 0) 72 459009) : wpX9_init_L255 kA Q a0 x y G (fun _ _ => 0) 30 199017 := by
  unfold wpX9_init_L255
  subst ha
  refine ⟨by decide, by decide, ?_⟩
  intro a0 G0 σ0 e0 es0
  have hs0 : σ0 = fun _ _ => 0 := by rw [es0]; exact Zr0.up (fun c _ => rfl)
  subst hs0
  subst e0
  refine ⟨0, _, hM.ae _ _, hM.oe _ _, by rw [patM_len]; decide, ?_⟩
  intro H0 f0
  replace hM := hM.step a0 40 1 23040
  rw [← f0] at hM
  clear f0 es0
  refine ⟨by decide, by decide, ?_⟩
  intro a1 G1 σ1 e1 es1
  have hs1 : σ1 = fun _ _ => 0 := by rw [es1]; exact Zr0.up (fun c _ => rfl)
  subst hs1
  subst e1
  refine ⟨0, _, hM.ae _ _, hM.oe _ _, by rw [patM_len]; decide, ?_⟩
  intro H1 f1
  replace hM := hM.step a1 41 1 23040
  rw [← f1] at hM
  clear f1 es1
  refine ⟨by decide, by decide, ?_⟩
  intro a2 G2 σ2 e2 es2
  have hs2 : σ2 = fun _ _ => 0 := by rw [es2]; exact Zr0.up (fun c _ => rfl)
  subst hs2
  subst e2
  refine ⟨0, _, hM.ae _ _, hM.oe _ _, by rw [patM_len]; decide, ?_⟩
  intro H2 f2
  replace hM := hM.step a2 42 0 6
  rw [← f2] at hM
  clear f2 es2
  refine ⟨by decide, by decide, ?_⟩
  intro a3 G3 σ3 e3 es3
  have hs3 : σ3 = fun _ _ => 0 := by rw [es3]; exact Zr0.up (fun c _ => rfl)
  subst hs3
  subst e3
  refine ⟨0, _, hM.ae _ _, hM.oe _ _, by rw [patM_len]; decide, ?_⟩
  intro H3 f3
  replace hM := hM.step a3 43 0 6
  rw [← f3] at hM
  clear f3 es3
  refine ⟨by decide, by decide, ?_⟩
  intro a4 G4 σ4 e4 es4
  have hs4 : σ4 = fun _ _ => 0 := by rw [es4]; exact Zr0.up (fun c _ => rfl)
  subst hs4
  subst e4
  refine ⟨0, _, hM.ae _ _, hM.oe _ _, by rw [patM_len]; decide, ?_⟩
  intro H4 f4
  replace hM := hM.step a4 44 0 6
  rw [← f4] at hM
  clear f4 es4
  refine ⟨by decide, by decide, ?_⟩
  intro a5 G5 σ5 e5 es5
  have hs5 : σ5 = fun _ _ => 0 := by rw [es5]; exact Zr0.up (fun c _ => rfl)
  subst hs5
  subst e5
  refine ⟨0, _, hM.ae _ _, hM.oe _ _, by rw [patM_len]; decide, ?_⟩
  intro H5 f5
  replace hM := hM.step a5 45 0 6
  rw [← f5] at hM
  clear f5 es5
  exact mch6 (G0 := G0) hM rfl hQ
set_option maxRecDepth 100000 in
theorem mch4 {kA : Nat → ClassId} {G0 G : GG} {a0 : Nat} {x y : Int32} {Q : GG → Sg → Prop} (hM : Mid kA G0 G 0 9 mpat [(9, 0, 120), (11, 0, 6), (12, 0, 6), (13, 0, 6), (14, 0, 6), (15, 0, 6), (16, 0, 6), (17, 0, 6), (18, 0, 6), (19, 0, 6), (20, 0, 6), (21, 1, 6), (22, 1, 6), (23, 0, 3), (24, 1, 192), (25, 0, 192), (26, 0, 192), (27, 0, 192), (28, 0, 23040), (29, 0, 26400), (30, 0, 26400), (31, 0, 6), (32, 1, 26400), (33, 1, 26400)]) (ha : ga G0 0 = a0) (hQ : ∀ G1, Mid kA G0 G1 0 9 mpat mAS → wpX9_init_L605 kA Q a0 x y G1 (fun _ _ => 0) 72 459009) : wpX9_init_L204 kA Q a0 x y G (fun _ _ => 0) 24 129609 := by
  unfold wpX9_init_L204
  subst ha
  refine ⟨by decide, by decide, ?_⟩
  intro a0 G0 σ0 e0 es0
  have hs0 : σ0 = fun _ _ => 0 := by rw [es0]; exact Zr0.up (fun c _ => rfl)
  subst hs0
  subst e0
  refine ⟨0, _, hM.ae _ _, hM.oe _ _, by rw [patM_len]; decide, ?_⟩
  intro H0 f0
  replace hM := hM.step a0 34 0 96
  rw [← f0] at hM
  clear f0 es0
  refine ⟨by decide, by decide, ?_⟩
  intro a1 G1 σ1 e1 es1
  have hs1 : σ1 = fun _ _ => 0 := by rw [es1]; exact Zr0.up (fun c _ => rfl)
  subst hs1
  subst e1
  refine ⟨0, _, hM.ae _ _, hM.oe _ _, by rw [patM_len]; decide, ?_⟩
  intro H1 f1
  replace hM := hM.step a1 35 0 96
  rw [← f1] at hM
  clear f1 es1
  refine ⟨by decide, by decide, ?_⟩
  intro a2 G2 σ2 e2 es2
  have hs2 : σ2 = fun _ _ => 0 := by rw [es2]; exact Zr0.up (fun c _ => rfl)
  subst hs2
  subst e2
  refine ⟨0, _, hM.ae _ _, hM.oe _ _, by rw [patM_len]; decide, ?_⟩
  intro H2 f2
  replace hM := hM.step a2 36 0 23040
  rw [← f2] at hM
  clear f2 es2
  refine ⟨by decide, by decide, ?_⟩
  intro a3 G3 σ3 e3 es3
  have hs3 : σ3 = fun _ _ => 0 := by rw [es3]; exact Zr0.up (fun c _ => rfl)
  subst hs3
  subst e3
  refine ⟨0, _, hM.ae _ _, hM.oe _ _, by rw [patM_len]; decide, ?_⟩
  intro H3 f3
  replace hM := hM.step a3 37 0 23040
  rw [← f3] at hM
  clear f3 es3
  refine ⟨by decide, by decide, ?_⟩
  intro a4 G4 σ4 e4 es4
  have hs4 : σ4 = fun _ _ => 0 := by rw [es4]; exact Zr0.up (fun c _ => rfl)
  subst hs4
  subst e4
  refine ⟨0, _, hM.ae _ _, hM.oe _ _, by rw [patM_len]; decide, ?_⟩
  intro H4 f4
  replace hM := hM.step a4 38 1 96
  rw [← f4] at hM
  clear f4 es4
  refine ⟨by decide, by decide, ?_⟩
  intro a5 G5 σ5 e5 es5
  have hs5 : σ5 = fun _ _ => 0 := by rw [es5]; exact Zr0.up (fun c _ => rfl)
  subst hs5
  subst e5
  refine ⟨0, _, hM.ae _ _, hM.oe _ _, by rw [patM_len]; decide, ?_⟩
  intro H5 f5
  replace hM := hM.step a5 39 1 23040
  rw [← f5] at hM
  clear f5 es5
  exact mch5 (G0 := G0) hM rfl hQ
set_option maxRecDepth 100000 in
theorem mch3 {kA : Nat → ClassId} {G0 G : GG} {a0 : Nat} {x y : Int32} {Q : GG → Sg → Prop} (hM : Mid kA G0 G 0 9 mpat [(9, 0, 120), (11, 0, 6), (12, 0, 6), (13, 0, 6), (14, 0, 6), (15, 0, 6), (16, 0, 6), (17, 0, 6), (18, 0, 6), (19, 0, 6), (20, 0, 6), (21, 1, 6), (22, 1, 6), (23, 0, 3), (24, 1, 192), (25, 0, 192), (26, 0, 192), (27, 0, 192)]) (ha : ga G0 0 = a0) (hQ : ∀ G1, Mid kA G0 G1 0 9 mpat mAS → wpX9_init_L605 kA Q a0 x y G1 (fun _ _ => 0) 72 459009) : wpX9_init_L151 kA Q a0 x y G (fun _ _ => 0) 18 963 := by
  unfold wpX9_init_L151
  subst ha
  refine ⟨by decide, by decide, ?_⟩
  intro a0 G0 σ0 e0 es0
  have hs0 : σ0 = fun _ _ => 0 := by rw [es0]; exact Zr0.up (fun c _ => rfl)
  subst hs0
  subst e0
  refine ⟨0, _, hM.ae _ _, hM.oe _ _, by rw [patM_len]; decide, ?_⟩
  intro H0 f0
  replace hM := hM.step a0 28 0 23040
  rw [← f0] at hM
  clear f0 es0
  refine ⟨by decide, by decide, ?_⟩
  intro a1 G1 σ1 e1 es1
  have hs1 : σ1 = fun _ _ => 0 := by rw [es1]; exact Zr0.up (fun c _ => rfl)
  subst hs1
  subst e1
  refine ⟨0, _, hM.ae _ _, hM.oe _ _, by rw [patM_len]; decide, ?_⟩
  intro H1 f1
  replace hM := hM.step a1 29 0 26400
  rw [← f1] at hM
  clear f1 es1
  refine ⟨by decide, by decide, ?_⟩
  intro a2 G2 σ2 e2 es2
  have hs2 : σ2 = fun _ _ => 0 := by rw [es2]; exact Zr0.up (fun c _ => rfl)
  subst hs2
  subst e2
  refine ⟨0, _, hM.ae _ _, hM.oe _ _, by rw [patM_len]; decide, ?_⟩
  intro H2 f2
  replace hM := hM.step a2 30 0 26400
  rw [← f2] at hM
  clear f2 es2
  refine ⟨by decide, by decide, ?_⟩
  intro a3 G3 σ3 e3 es3
  have hs3 : σ3 = fun _ _ => 0 := by rw [es3]; exact Zr0.up (fun c _ => rfl)
  subst hs3
  subst e3
  refine ⟨0, _, hM.ae _ _, hM.oe _ _, by rw [patM_len]; decide, ?_⟩
  intro H3 f3
  replace hM := hM.step a3 31 0 6
  rw [← f3] at hM
  clear f3 es3
  refine ⟨by decide, by decide, ?_⟩
  intro a4 G4 σ4 e4 es4
  have hs4 : σ4 = fun _ _ => 0 := by rw [es4]; exact Zr0.up (fun c _ => rfl)
  subst hs4
  subst e4
  refine ⟨0, _, hM.ae _ _, hM.oe _ _, by rw [patM_len]; decide, ?_⟩
  intro H4 f4
  replace hM := hM.step a4 32 1 26400
  rw [← f4] at hM
  clear f4 es4
  refine ⟨by decide, by decide, ?_⟩
  intro a5 G5 σ5 e5 es5
  have hs5 : σ5 = fun _ _ => 0 := by rw [es5]; exact Zr0.up (fun c _ => rfl)
  subst hs5
  subst e5
  refine ⟨0, _, hM.ae _ _, hM.oe _ _, by rw [patM_len]; decide, ?_⟩
  intro H5 f5
  replace hM := hM.step a5 33 1 26400
  rw [← f5] at hM
  clear f5 es5
  exact mch4 (G0 := G0) hM rfl hQ
set_option maxRecDepth 100000 in
theorem mch2 {kA : Nat → ClassId} {G0 G : GG} {a0 : Nat} {x y : Int32} {Q : GG → Sg → Prop} (hM : Mid kA G0 G 0 9 mpat [(9, 0, 120), (11, 0, 6), (12, 0, 6), (13, 0, 6), (14, 0, 6), (15, 0, 6), (16, 0, 6), (17, 0, 6), (18, 0, 6), (19, 0, 6), (20, 0, 6), (21, 1, 6)]) (ha : ga G0 0 = a0) (hQ : ∀ G1, Mid kA G0 G1 0 9 mpat mAS → wpX9_init_L605 kA Q a0 x y G1 (fun _ _ => 0) 72 459009) : wpX9_init_L100 kA Q a0 x y G (fun _ _ => 0) 12 186 := by
  unfold wpX9_init_L100
  subst ha
  refine ⟨by decide, by decide, ?_⟩
  intro a0 G0 σ0 e0 es0
  have hs0 : σ0 = fun _ _ => 0 := by rw [es0]; exact Zr0.up (fun c _ => rfl)
  subst hs0
  subst e0
  refine ⟨0, _, hM.ae _ _, hM.oe _ _, by rw [patM_len]; decide, ?_⟩
  intro H0 f0
  replace hM := hM.step a0 22 1 6
  rw [← f0] at hM
  clear f0 es0
  refine ⟨by decide, by decide, ?_⟩
  intro a1 G1 σ1 e1 es1
  have hs1 : σ1 = fun _ _ => 0 := by rw [es1]; exact Zr0.up (fun c _ => rfl)
  subst hs1
  subst e1
  refine ⟨0, _, hM.ae _ _, hM.oe _ _, by rw [patM_len]; decide, ?_⟩
  intro H1 f1
  replace hM := hM.step a1 23 0 3
  rw [← f1] at hM
  clear f1 es1
  refine ⟨by decide, by decide, ?_⟩
  intro a2 G2 σ2 e2 es2
  have hs2 : σ2 = fun _ _ => 0 := by rw [es2]; exact Zr0.up (fun c _ => rfl)
  subst hs2
  subst e2
  refine ⟨0, _, hM.ae _ _, hM.oe _ _, by rw [patM_len]; decide, ?_⟩
  intro H2 f2
  replace hM := hM.step a2 24 1 192
  rw [← f2] at hM
  clear f2 es2
  refine ⟨by decide, by decide, ?_⟩
  intro a3 G3 σ3 e3 es3
  have hs3 : σ3 = fun _ _ => 0 := by rw [es3]; exact Zr0.up (fun c _ => rfl)
  subst hs3
  subst e3
  refine ⟨0, _, hM.ae _ _, hM.oe _ _, by rw [patM_len]; decide, ?_⟩
  intro H3 f3
  replace hM := hM.step a3 25 0 192
  rw [← f3] at hM
  clear f3 es3
  refine ⟨by decide, by decide, ?_⟩
  intro a4 G4 σ4 e4 es4
  have hs4 : σ4 = fun _ _ => 0 := by rw [es4]; exact Zr0.up (fun c _ => rfl)
  subst hs4
  subst e4
  refine ⟨0, _, hM.ae _ _, hM.oe _ _, by rw [patM_len]; decide, ?_⟩
  intro H4 f4
  replace hM := hM.step a4 26 0 192
  rw [← f4] at hM
  clear f4 es4
  refine ⟨by decide, by decide, ?_⟩
  intro a5 G5 σ5 e5 es5
  have hs5 : σ5 = fun _ _ => 0 := by rw [es5]; exact Zr0.up (fun c _ => rfl)
  subst hs5
  subst e5
  refine ⟨0, _, hM.ae _ _, hM.oe _ _, by rw [patM_len]; decide, ?_⟩
  intro H5 f5
  replace hM := hM.step a5 27 0 192
  rw [← f5] at hM
  clear f5 es5
  exact mch3 (G0 := G0) hM rfl hQ
set_option maxRecDepth 100000 in
theorem mch1 {kA : Nat → ClassId} {G0 G : GG} {a0 : Nat} {x y : Int32} {Q : GG → Sg → Prop} (hM : Mid kA G0 G 0 9 mpat [(9, 0, 120), (11, 0, 6), (12, 0, 6), (13, 0, 6), (14, 0, 6), (15, 0, 6)]) (ha : ga G0 0 = a0) (hQ : ∀ G1, Mid kA G0 G1 0 9 mpat mAS → wpX9_init_L605 kA Q a0 x y G1 (fun _ _ => 0) 72 459009) : wpX9_init_L52 kA Q a0 x y G (fun _ _ => 0) 6 150 := by
  unfold wpX9_init_L52
  subst ha
  refine ⟨by decide, by decide, ?_⟩
  intro a0 G0 σ0 e0 es0
  have hs0 : σ0 = fun _ _ => 0 := by rw [es0]; exact Zr0.up (fun c _ => rfl)
  subst hs0
  subst e0
  refine ⟨0, _, hM.ae _ _, hM.oe _ _, by rw [patM_len]; decide, ?_⟩
  intro H0 f0
  replace hM := hM.step a0 16 0 6
  rw [← f0] at hM
  clear f0 es0
  refine ⟨by decide, by decide, ?_⟩
  intro a1 G1 σ1 e1 es1
  have hs1 : σ1 = fun _ _ => 0 := by rw [es1]; exact Zr0.up (fun c _ => rfl)
  subst hs1
  subst e1
  refine ⟨0, _, hM.ae _ _, hM.oe _ _, by rw [patM_len]; decide, ?_⟩
  intro H1 f1
  replace hM := hM.step a1 17 0 6
  rw [← f1] at hM
  clear f1 es1
  refine ⟨by decide, by decide, ?_⟩
  intro a2 G2 σ2 e2 es2
  have hs2 : σ2 = fun _ _ => 0 := by rw [es2]; exact Zr0.up (fun c _ => rfl)
  subst hs2
  subst e2
  refine ⟨0, _, hM.ae _ _, hM.oe _ _, by rw [patM_len]; decide, ?_⟩
  intro H2 f2
  replace hM := hM.step a2 18 0 6
  rw [← f2] at hM
  clear f2 es2
  refine ⟨by decide, by decide, ?_⟩
  intro a3 G3 σ3 e3 es3
  have hs3 : σ3 = fun _ _ => 0 := by rw [es3]; exact Zr0.up (fun c _ => rfl)
  subst hs3
  subst e3
  refine ⟨0, _, hM.ae _ _, hM.oe _ _, by rw [patM_len]; decide, ?_⟩
  intro H3 f3
  replace hM := hM.step a3 19 0 6
  rw [← f3] at hM
  clear f3 es3
  refine ⟨by decide, by decide, ?_⟩
  intro a4 G4 σ4 e4 es4
  have hs4 : σ4 = fun _ _ => 0 := by rw [es4]; exact Zr0.up (fun c _ => rfl)
  subst hs4
  subst e4
  refine ⟨0, _, hM.ae _ _, hM.oe _ _, by rw [patM_len]; decide, ?_⟩
  intro H4 f4
  replace hM := hM.step a4 20 0 6
  rw [← f4] at hM
  clear f4 es4
  refine ⟨by decide, by decide, ?_⟩
  intro a5 G5 σ5 e5 es5
  have hs5 : σ5 = fun _ _ => 0 := by rw [es5]; exact Zr0.up (fun c _ => rfl)
  subst hs5
  subst e5
  refine ⟨0, _, hM.ae _ _, hM.oe _ _, by rw [patM_len]; decide, ?_⟩
  intro H5 f5
  replace hM := hM.step a5 21 1 6
  rw [← f5] at hM
  clear f5 es5
  exact mch2 (G0 := G0) hM rfl hQ
set_option maxRecDepth 100000 in
theorem mch0 {kA : Nat → ClassId} {G0 G : GG} {a0 : Nat} {x y : Int32} {Q : GG → Sg → Prop} (hM : Mid kA G0 G 0 9 mpat []) (ha : ga G0 0 = a0) (hQ : ∀ G1, Mid kA G0 G1 0 9 mpat mAS → wpX9_init_L605 kA Q a0 x y G1 (fun _ _ => 0) 72 459009) : wpX9_init kA G a0 x y (fun _ _ => 0) Q := by
  unfold wpX9_init
  subst ha
  refine ⟨by decide, by decide, ?_⟩
  intro a0 G0 σ0 e0 es0
  have hs0 : σ0 = fun _ _ => 0 := by rw [es0]; exact Zr0.up (fun c _ => rfl)
  subst hs0
  subst e0
  refine ⟨0, _, hM.ae _ _, hM.oe _ _, by rw [patM_len]; decide, ?_⟩
  intro H0 f0
  replace hM := hM.step a0 9 0 120
  rw [← f0] at hM
  clear f0 es0
  refine ⟨by decide, by decide, ?_⟩
  intro a1 G1 σ1 e1 es1
  have hs1 : σ1 = fun _ _ => 0 := by rw [es1]; exact Zr0.up (fun c _ => rfl)
  subst hs1
  subst e1
  refine ⟨0, _, hM.ae _ _, hM.oe _ _, by rw [patM_len]; decide, ?_⟩
  intro H1 f1
  replace hM := hM.step a1 11 0 6
  rw [← f1] at hM
  clear f1 es1
  refine ⟨by decide, by decide, ?_⟩
  intro a2 G2 σ2 e2 es2
  have hs2 : σ2 = fun _ _ => 0 := by rw [es2]; exact Zr0.up (fun c _ => rfl)
  subst hs2
  subst e2
  refine ⟨0, _, hM.ae _ _, hM.oe _ _, by rw [patM_len]; decide, ?_⟩
  intro H2 f2
  replace hM := hM.step a2 12 0 6
  rw [← f2] at hM
  clear f2 es2
  refine ⟨by decide, by decide, ?_⟩
  intro a3 G3 σ3 e3 es3
  have hs3 : σ3 = fun _ _ => 0 := by rw [es3]; exact Zr0.up (fun c _ => rfl)
  subst hs3
  subst e3
  refine ⟨0, _, hM.ae _ _, hM.oe _ _, by rw [patM_len]; decide, ?_⟩
  intro H3 f3
  replace hM := hM.step a3 13 0 6
  rw [← f3] at hM
  clear f3 es3
  refine ⟨by decide, by decide, ?_⟩
  intro a4 G4 σ4 e4 es4
  have hs4 : σ4 = fun _ _ => 0 := by rw [es4]; exact Zr0.up (fun c _ => rfl)
  subst hs4
  subst e4
  refine ⟨0, _, hM.ae _ _, hM.oe _ _, by rw [patM_len]; decide, ?_⟩
  intro H4 f4
  replace hM := hM.step a4 14 0 6
  rw [← f4] at hM
  clear f4 es4
  refine ⟨by decide, by decide, ?_⟩
  intro a5 G5 σ5 e5 es5
  have hs5 : σ5 = fun _ _ => 0 := by rw [es5]; exact Zr0.up (fun c _ => rfl)
  subst hs5
  subst e5
  refine ⟨0, _, hM.ae _ _, hM.oe _ _, by rw [patM_len]; decide, ?_⟩
  intro H5 f5
  replace hM := hM.step a5 15 0 6
  rw [← f5] at hM
  clear f5 es5
  exact mch1 (G0 := G0) hM rfl hQ
