/-! CONSTRUCTORS: the tables (laid by wip/gen/ctab.py), and the graph that they make -/
def kkI0 : sCode := [(14, [(0, .aload_n 0, 1), (1, .invokespecial 3, 3), (4, .aload_n 0, 1), (5, .bipush 12, 2), (7, .newarray .int, 2), (9, .putfield 9, 3), (12, .aload_n 0, 1), (13, .sipush 256, 3)]), (22, [(16, .newarray .int, 2), (18, .putfield 15, 3), (21, .return_, 1)])]
def kpI0 : kPo := [(3, 4, 0, 0), (9, 2, 0, 0), (15, 2, 0, 1)]
def kkI1 : sCode := [(5, [(0, .aload_n 0, 1), (1, .invokespecial 1, 3), (4, .return_, 1)])]
def kpI1 : kPo := [(1, 4, 0, 0)]
def kkI2 : sCode := [(14, [(0, .aload_n 0, 1), (1, .invokespecial 3, 3), (4, .aload_n 0, 1), (5, .bipush 12, 2), (7, .newarray .int, 2), (9, .putfield 9, 3), (12, .aload_n 0, 1), (13, .bipush 12, 2)]), (21, [(15, .newarray .int, 2), (17, .putfield 15, 3), (20, .return_, 1)])]
def kpI2 : kPo := [(3, 4, 0, 0), (9, 2, 2, 6), (15, 2, 2, 7)]
def kkI3 : sCode := [(13, [(0, .aload_n 0, 1), (1, .invokespecial 3, 3), (4, .aload_n 0, 1), (5, .iconst 4, 1), (6, .newarray .int, 2), (8, .putfield 9, 3), (11, .aload_n 0, 1), (12, .iconst 4, 1)]), (27, [(13, .newarray .int, 2), (15, .putfield 15, 3), (18, .aload_n 0, 1), (19, .iconst 5, 1), (20, .newarray .int, 2), (22, .putfield 18, 3), (25, .aload_n 0, 1), (26, .iconst 4, 1)]), (40, [(27, .newarray .int, 2), (29, .putfield 21, 3), (32, .aload_n 0, 1), (33, .iconst 4, 1), (34, .newarray .int, 2), (36, .putfield 24, 3), (39, .return_, 1)])]
def kpI3 : kPo := [(3, 4, 0, 0), (9, 2, 3, 2), (15, 2, 3, 3), (18, 2, 3, 4), (21, 2, 3, 5), (24, 2, 3, 6)]
def kkI4 : sCode := [(14, [(0, .aload_n 0, 1), (1, .invokespecial 3, 3), (4, .aload_n 0, 1), (5, .bipush 9, 2), (7, .newarray .int, 2), (9, .putfield 9, 3), (12, .aload_n 0, 1), (13, .bipush 9, 2)]), (21, [(15, .newarray .int, 2), (17, .putfield 15, 3), (20, .return_, 1)])]
def kpI4 : kPo := [(3, 4, 0, 0), (9, 2, 4, 4), (15, 2, 4, 5)]
def kkI5 : sCode := [(16, [(0, .aload_n 0, 1), (1, .invokespecial 3, 3), (4, .aload_n 0, 1), (5, .new 9, 3), (8, .dup, 1), (9, .invokespecial 11, 3), (12, .putfield 12, 3), (15, .aload_n 0, 1)]), (21, [(16, .iconst (-1), 1), (17, .putfield 18, 3), (20, .return_, 1)])]
def kpI5 : kPo := [(3, 4, 0, 0), (9, 0, 9, 0), (11, 3, 9, 0), (12, 2, 5, 0), (18, 2, 5, 2)]
def kkI6 : sCode := [(14, [(0, .aload_n 0, 1), (1, .invokespecial 3, 3), (4, .aload_n 0, 1), (5, .bipush 9, 2), (7, .newarray .int, 2), (9, .putfield 9, 3), (12, .aload_n 0, 1), (13, .bipush 10, 2)]), (21, [(15, .newarray .int, 2), (17, .putfield 15, 3), (20, .return_, 1)])]
def kpI6 : kPo := [(3, 4, 0, 0), (9, 2, 6, 1), (15, 2, 6, 2)]
def kkI7 : sCode := [(13, [(0, .aload_n 0, 1), (1, .invokespecial 3, 3), (4, .aload_n 0, 1), (5, .iconst (-1), 1), (6, .putfield 9, 3), (9, .aload_n 0, 1), (10, .bipush 60, 2), (12, .newarray .long, 2)]), (18, [(14, .putfield 15, 3), (17, .return_, 1)])]
def kpI7 : kPo := [(3, 4, 0, 0), (9, 2, 7, 1), (15, 2, 7, 2)]
def kkI8 : sCode := [(14, [(0, .aload_n 0, 1), (1, .invokespecial 3, 3), (4, .aload_n 0, 1), (5, .bipush 8, 2), (7, .newarray .int, 2), (9, .putfield 9, 3), (12, .aload_n 0, 1), (13, .iconst 4, 1)]), (28, [(14, .newarray .int, 2), (16, .putfield 15, 3), (19, .aload_n 0, 1), (20, .iconst 4, 1), (21, .newarray .int, 2), (23, .putfield 18, 3), (26, .aload_n 0, 1), (27, .bipush 18, 2)]), (43, [(29, .newarray .int, 2), (31, .putfield 21, 3), (34, .aload_n 0, 1), (35, .bipush 18, 2), (37, .newarray .int, 2), (39, .putfield 24, 3), (42, .return_, 1)])]
def kpI8 : kPo := [(3, 4, 0, 0), (9, 2, 8, 0), (15, 2, 8, 1), (18, 2, 8, 2), (21, 2, 8, 3), (24, 2, 8, 4)]
def kkI9 : sCode := [(14, [(0, .aload_n 0, 1), (1, .invokespecial 3, 3), (4, .aload_n 0, 1), (5, .sipush 800, 3), (8, .newarray .byte, 2), (10, .putfield 9, 3), (13, .return_, 1)])]
def kpI9 : kPo := [(3, 4, 0, 0), (9, 2, 9, 0)]
def kkI10 : sCode := [(17, [(0, .aload_n 0, 1), (1, .invokespecial 3, 3), (4, .aload_n 0, 1), (5, .bipush 9, 2), (7, .bipush 6, 2), (9, .multianewarray 9 2, 4), (13, .putfield 11, 3), (16, .aload_n 0, 1)]), (31, [(17, .bipush 6, 2), (19, .iconst 3, 1), (20, .multianewarray 9 2, 4), (24, .putfield 16, 3), (27, .aload_n 0, 1), (28, .iconst 4, 1), (29, .iconst 3, 1), (30, .multianewarray 9 2, 4)]), (46, [(34, .putfield 19, 3), (37, .aload_n 0, 1), (38, .bipush 9, 2), (40, .newarray .int, 2), (42, .putfield 22, 3), (45, .return_, 1)])]
def kpI10 : kPo := [(3, 4, 0, 0), (9, 1, 6, 0), (11, 2, 10, 8), (16, 2, 10, 9), (19, 2, 10, 10), (22, 2, 10, 11)]
def kkI11 : sCode := [(16, [(0, .aload_n 0, 1), (1, .invokespecial 1, 3), (4, .aload_n 0, 1), (5, .new 7, 3), (8, .dup, 1), (9, .invokespecial 9, 3), (12, .putfield 10, 3), (15, .aload_n 0, 1)]), (32, [(16, .new 16, 3), (19, .dup, 1), (20, .invokespecial 18, 3), (23, .putfield 19, 3), (26, .aload_n 0, 1), (27, .new 16, 3), (30, .dup, 1), (31, .invokespecial 18, 3)]), (48, [(34, .putfield 23, 3), (37, .aload_n 0, 1), (38, .iconst 3, 1), (39, .anewarray 16, 3), (42, .dup, 1), (43, .iconst 0, 1), (44, .new 16, 3), (47, .dup, 1)]), (62, [(48, .invokespecial 18, 3), (51, .aastore, 1), (52, .dup, 1), (53, .iconst 1, 1), (54, .new 16, 3), (57, .dup, 1), (58, .invokespecial 18, 3), (61, .aastore, 1)]), (76, [(62, .dup, 1), (63, .iconst 2, 1), (64, .new 16, 3), (67, .dup, 1), (68, .invokespecial 18, 3), (71, .aastore, 1), (72, .putfield 26, 3), (75, .aload_n 0, 1)]), (91, [(76, .iconst 3, 1), (77, .newarray .boolean, 2), (79, .putfield 30, 3), (82, .aload_n 0, 1), (83, .new 34, 3), (86, .dup, 1), (87, .invokespecial 36, 3), (90, .putfield 37, 3)]), (109, [(93, .aload_n 0, 1), (94, .new 34, 3), (97, .dup, 1), (98, .invokespecial 36, 3), (101, .putfield 41, 3), (104, .aload_n 0, 1), (105, .new 44, 3), (108, .dup, 1)]), (127, [(109, .invokespecial 46, 3), (112, .putfield 47, 3), (115, .aload_n 0, 1), (116, .new 51, 3), (119, .dup, 1), (120, .invokespecial 53, 3), (123, .putfield 54, 3), (126, .aload_n 0, 1)]), (143, [(127, .new 58, 3), (130, .dup, 1), (131, .invokespecial 60, 3), (134, .putfield 61, 3), (137, .aload_n 0, 1), (138, .new 65, 3), (141, .dup, 1), (142, .invokespecial 67, 3)]), (161, [(145, .putfield 68, 3), (148, .aload_n 0, 1), (149, .new 72, 3), (152, .dup, 1), (153, .invokespecial 74, 3), (156, .putfield 75, 3), (159, .aload_n 0, 1), (160, .new 79, 3)]), (177, [(163, .dup, 1), (164, .invokespecial 81, 3), (167, .putfield 82, 3), (170, .aload_n 0, 1), (171, .iconst 4, 1), (172, .anewarray 86, 3), (175, .dup, 1), (176, .iconst 0, 1)]), (191, [(177, .new 86, 3), (180, .dup, 1), (181, .invokespecial 88, 3), (184, .aastore, 1), (185, .dup, 1), (186, .iconst 1, 1), (187, .new 86, 3), (190, .dup, 1)]), (205, [(191, .invokespecial 88, 3), (194, .aastore, 1), (195, .dup, 1), (196, .iconst 2, 1), (197, .new 86, 3), (200, .dup, 1), (201, .invokespecial 88, 3), (204, .aastore, 1)]), (219, [(205, .dup, 1), (206, .iconst 3, 1), (207, .new 86, 3), (210, .dup, 1), (211, .invokespecial 88, 3), (214, .aastore, 1), (215, .putfield 89, 3), (218, .return_, 1)])]
def kpI11 : kPo := [(1, 4, 0, 0), (7, 0, 5, 0), (9, 3, 5, 0), (10, 2, 11, 0), (16, 0, 10, 4), (18, 3, 10, 0), (19, 2, 11, 1), (23, 2, 11, 2), (26, 2, 11, 3), (30, 2, 11, 4), (34, 0, 8, 0), (36, 3, 8, 0), (37, 2, 11, 5), (41, 2, 11, 6), (44, 0, 6, 0), (46, 3, 6, 0), (47, 2, 11, 7), (51, 0, 4, 0), (53, 3, 4, 0), (54, 2, 11, 8), (58, 0, 3, 0), (60, 3, 3, 0), (61, 2, 11, 9), (65, 0, 2, 0), (67, 3, 2, 0), (68, 2, 11, 10), (72, 0, 0, 0), (74, 3, 0, 0), (75, 2, 11, 11), (79, 0, 1, 0), (81, 3, 1, 0), (82, 2, 11, 12), (86, 0, 7, 5), (88, 3, 7, 0), (89, 2, 11, 13)]
def kkI12 : sCode := [(14, [(0, .aload_n 0, 1), (1, .invokespecial 3, 3), (4, .aload_n 0, 1), (5, .bipush 101, 2), (7, .newarray .int, 2), (9, .putfield 9, 3), (12, .aload_n 0, 1), (13, .sipush 303, 3)]), (30, [(16, .newarray .int, 2), (18, .putfield 13, 3), (21, .aload_n 0, 1), (22, .iconst 3, 1), (23, .newarray .boolean, 2), (25, .putfield 16, 3), (28, .aload_n 0, 1), (29, .sipush 800, 3)]), (46, [(32, .newarray .byte, 2), (34, .putfield 20, 3), (37, .aload_n 0, 1), (38, .iconst 5, 1), (39, .newarray .int, 2), (41, .putfield 24, 3), (44, .aload_n 0, 1), (45, .iconst (-1), 1)]), (60, [(46, .putfield 27, 3), (49, .aload_n 0, 1), (50, .bipush 101, 2), (52, .newarray .int, 2), (54, .putfield 31, 3), (57, .aload_n 0, 1), (58, .iconst (-1), 1), (59, .putfield 34, 3)]), (76, [(62, .aload_n 0, 1), (63, .bipush 18, 2), (65, .newarray .boolean, 2), (67, .putfield 37, 3), (70, .aload_n 0, 1), (71, .bipush 18, 2), (73, .newarray .int, 2), (75, .putfield 40, 3)]), (92, [(78, .aload_n 0, 1), (79, .bipush 9, 2), (81, .newarray .int, 2), (83, .putfield 43, 3), (86, .aload_n 0, 1), (87, .bipush 9, 2), (89, .newarray .int, 2), (91, .putfield 46, 3)]), (106, [(94, .aload_n 0, 1), (95, .iconst 4, 1), (96, .newarray .int, 2), (98, .putfield 49, 3), (101, .aload_n 0, 1), (102, .iconst 4, 1), (103, .newarray .int, 2), (105, .putfield 52, 3)]), (121, [(108, .aload_n 0, 1), (109, .bipush 12, 2), (111, .newarray .int, 2), (113, .putfield 55, 3), (116, .aload_n 0, 1), (117, .iconst 4, 1), (118, .newarray .int, 2), (120, .dup, 1)]), (129, [(121, .iconst 0, 1), (122, .iconst (-1), 1), (123, .iastore, 1), (124, .dup, 1), (125, .iconst 1, 1), (126, .iconst (-1), 1), (127, .iastore, 1), (128, .dup, 1)]), (137, [(129, .iconst 2, 1), (130, .iconst (-1), 1), (131, .iastore, 1), (132, .dup, 1), (133, .iconst 3, 1), (134, .iconst (-1), 1), (135, .iastore, 1), (136, .putfield 58, 3)]), (153, [(139, .aload_n 0, 1), (140, .iconst 4, 1), (141, .newarray .int, 2), (143, .putfield 61, 3), (146, .aload_n 0, 1), (147, .sipush 240, 3), (150, .newarray .long, 2), (152, .putfield 64, 3)]), (164, [(155, .aload_n 0, 1), (156, .bipush 60, 2), (158, .newarray .long, 2), (160, .putfield 68, 3), (163, .return_, 1)])]
def kpI12 : kPo := [(3, 4, 0, 0), (9, 2, 12, 1), (13, 2, 12, 2), (16, 2, 12, 3), (20, 2, 12, 4), (24, 2, 12, 6), (27, 2, 12, 13), (31, 2, 12, 14), (34, 2, 12, 15), (37, 2, 12, 16), (40, 2, 12, 17), (43, 2, 12, 18), (46, 2, 12, 19), (49, 2, 12, 25), (52, 2, 12, 26), (55, 2, 12, 29), (58, 2, 12, 32), (61, 2, 12, 33), (64, 2, 12, 34), (68, 2, 12, 35)]
def kTb : List kMe := [(yX0_init, cX0_init, kkI0, kpI0, 2, 268), (yX1_init, cX1_init, kkI1, kpI1, 0, 0), (yX2_init, cX2_init, kkI2, kpI2, 2, 24), (yX3_init, cX3_init, kkI3, kpI3, 5, 21), (yX4_init, cX4_init, kkI4, kpI4, 2, 18), (yX5_init, cX5_init, kkI5, kpI5, 2, 805), (yX6_init, cX6_init, kkI6, kpI6, 2, 19), (yX7_init, cX7_init, kkI7, kpI7, 1, 60), (yX8_init, cX8_init, kkI8, kpI8, 5, 52), (yX9_init, cX9_init, kkI9, kpI9, 1, 800), (yX10_init, cX10_init, kkI10, kpI10, 23, 112), (yX11_init, cX11_init, kkI11, kpI11, 165, 2185), (yX12_init, cX12_init, kkI12, kpI12, 17, 1695)]
def kNz : List Nat := [1, 1787, 1849, 1911, 1973, 2042, 2043, 3440, 3441, 3442, 3443]
/-- the memory of two new objects -/
def kMu0 : gM := fun p => if kNz.any (Nat.beq p) then -1 else 0
def k11f : List gV := (kDefs TX11 0 14).getD []
def k12f : List gV := (kDefs TX12 0 36).getD []
def kCs1 : List kC := (kM kTb 6 11 0 [.inl (11, k11f)]).getD []
def kCs2 : List kC := (kM kTb 6 12 166 (kCs1 ++ [.inl (12, k12f)])).getD []
def finF (mu : gM) : List gV → List gF → Bool
  | [], [] => true
  | .inl (.inl v) :: r, .inl p :: s => decide (v.toInt = mu p) && finF mu r s
  | .inr (some j) :: r, .inr k :: s => Nat.beq j k && finF mu r s
  | _, _ => false
def finA (mu : gM) : Nat → List Int → Bool
  | _, [] => true
  | b, x :: r => decide (x = mu b) && finA mu (b + 1) r
def finR : List (Option Nat) → List Nat → Bool
  | [], [] => true
  | some j :: r, k :: s => Nat.beq j k && finR r s
  | _, _ => false
def finC (mu : gM) : kC → gC → Bool
  | .inl (ci, fs), .inl (cj, gs) => Nat.beq ci cj && finF mu fs gs
  | .inr (.inl (k, xs)), .inr (.inl (k', b, n)) => Nat.beq k k' && (Nat.beq xs.length n && finA mu b xs)
  | .inr (.inr (k, ids)), .inr (.inr (k', js)) => Nat.beq k k' && finR ids js
  | _, _ => false
def finL (mu : gM) : List kC → List gC → Bool
  | [], [] => true
  | c :: r, g :: s => finC mu c g && finL mu r s
  | _, _ => false
theorem finF_ok {mu : gM} {al : Nat → Nat} : ∀ (fs : List gV) (gs : List gF), finF mu fs gs = true → fs.map (gc al) = gs.map (gfv al mu)
  | [], [], _ => rfl
  | [], _ :: _, h => by simp [finF] at h
  | v :: r, [], h => by rcases v with (v | v) | (_ | v) <;> simp [finF] at h
  | v :: r, g :: s, h => by
    rcases v with (v | v) | (_ | v) <;> rcases g with p | k <;> try (simp [finF] at h; done)
    · simp only [finF, Bool.and_eq_true, decide_eq_true_eq] at h
      rw [List.map_cons, List.map_cons, finF_ok r s h.2]
      show Value.int v :: _ = Value.int (Int32.ofInt (mu p)) :: _
      rw [← h.1, Int32.ofInt_toInt]
    · simp only [finF, Bool.and_eq_true, Nat.beq_eq] at h
      rw [List.map_cons, List.map_cons, finF_ok r s h.2, h.1]
      rfl
theorem finA_ok {mu : gM} : ∀ (xs : List Int) (b j : Nat), finA mu b xs = true → j < xs.length → xs.getD j 0 = mu (b + j)
  | [], _, _, _, hj => by simp at hj
  | x :: r, b, j, h, hj => by
    simp only [finA, Bool.and_eq_true, decide_eq_true_eq] at h
    cases j with
    | zero => exact h.1
    | succ j =>
      have := finA_ok r (b + 1) j h.2 (by simpa using hj)
      rw [show b + (j + 1) = b + 1 + j by omega, ← this]
      rfl
theorem finR_ok : ∀ (ids : List (Option Nat)) (js : List Nat), finR ids js = true → ids = js.map some
  | [], [], _ => rfl
  | [], _ :: _, h => by simp [finR] at h
  | o :: r, [], h => by cases o <;> simp [finR] at h
  | o :: r, k :: s, h => by
    cases o with
    | none => simp [finR] at h
    | some j =>
      simp only [finR, Bool.and_eq_true, Nat.beq_eq] at h
      rw [List.map_cons, ← finR_ok r s h.2, h.1]
theorem finC_ok {mu : gM} {al : Nat → Nat} {dA : Nat → ClassId} {c : kC} {g : gC} (h : finC mu c g = true) {D : va_G} {k : Nat} {H : Heap} (hat : va_at D vwCl (al k, kcell al dA c) H) : va_at D vwCl (al k, gcell al dA mu g) H := by
  rcases c with ⟨ci, fs⟩ | ⟨kd, xs⟩ | ⟨kd, ids⟩ <;> rcases g with ⟨cj, gs⟩ | ⟨kd', b, n⟩ | ⟨kd', js⟩ <;> try (simp [finC] at h; done)
  · simp only [finC, Bool.and_eq_true, Nat.beq_eq] at h
    obtain ⟨rfl, h2⟩ := h
    have e : kcell al dA (.inl (ci, fs)) = gcell al dA mu (.inl (ci, gs)) := by
      simp only [kcell, gcell]
      rw [finF_ok fs gs h2]
    rw [← e]
    exact hat
  · simp only [finC, Bool.and_eq_true, Nat.beq_eq] at h
    obtain ⟨rfl, rfl, h3⟩ := h
    simp only [kcell] at hat
    simp only [gcell]
    by_cases c3 : kd = 3
    · subst c3
      rw [if_pos rfl] at hat ⊢
      simp only [va_at, vp_cell] at hat ⊢
      rw [hat]
      exact congrArg some (garr_eq (fun j hj => by rw [finA_ok xs b j h3 hj]))
    · rw [if_neg c3] at hat ⊢
      simp only [va_at, vp_cell] at hat ⊢
      rw [hat]
      exact congrArg some (garr_eq (fun j hj => by rw [finA_ok xs b j h3 hj]))
  · simp only [finC, Bool.and_eq_true, Nat.beq_eq] at h
    obtain ⟨rfl, h2⟩ := h
    have e : kcell al dA (.inr (.inr (kd, ids))) = gcell al dA mu (.inr (.inr (kd, js))) := by
      rw [finR_ok ids js h2]
      simp only [kcell, gcell, List.length_map]
      refine congrArg (fun f : Nat → Option Nat => (Sum.inl (dA kd, js.length, .inr (.inr (.inr (.inr f)))) : va_E)) (funext fun j => ?_)
      cases e : js[j]? with
      | none => simp [List.getD, e]
      | some x => simp [List.getD, e]
    rw [← e]
    exact hat
theorem finL_at {mu : gM} : ∀ (cs : List kC) (gs : List gC), finL mu cs gs = true → cs.length = gs.length ∧ ∀ (k : Nat) (g : gC), gs[k]? = some g → ∃ c, cs[k]? = some c ∧ finC mu c g = true
  | [], [], _ => ⟨rfl, fun k g h => by simp at h⟩
  | [], _ :: _, h => by simp [finL] at h
  | _ :: _, [], h => by simp [finL] at h
  | c :: r, g :: s, h => by
    simp only [finL, Bool.and_eq_true] at h
    obtain ⟨h1, h2⟩ := finL_at r s h.2
    refine ⟨by rw [List.length_cons, List.length_cons, h1], fun k g' hk => ?_⟩
    cases k with
    | zero => cases hk; exact ⟨c, rfl, h.1⟩
    | succ k => exact h2 k g' hk
theorem fin_ok {mu : gM} {cs : List kC} {G : List gC} (h : finL mu cs G = true) {al : Nat → Nat} {dA : Nat → ClassId} {D : va_G} {A : Nat → Prop} {H : Heap} (hP : va_P D vwCl (kW al dA 0 cs) H) (hD : va_D A (kW al dA 0 cs)) : va_P D vwCl (gW al dA mu 0 G) H ∧ va_D A (gW al dA mu 0 G) := by
  obtain ⟨hl, hk⟩ := finL_at cs G h
  have key : ∀ (k : Nat) (p : Nat × va_E), (gW al dA mu 0 G)[k]? = some p → ∃ c g, cs[k]? = some c ∧ finC mu c g = true ∧ p = (al k, gcell al dA mu g) ∧ (kW al dA 0 cs)[k]? = some (al k, kcell al dA c) := fun k p hp => by
    rw [gW_at] at hp
    cases e : G[k]? with
    | none => rw [e] at hp; cases hp
    | some g =>
      rw [e] at hp
      simp only [Option.map_some, Option.some.injEq, Nat.zero_add] at hp
      obtain ⟨c, c1, c2⟩ := hk k g e
      exact ⟨c, g, c1, c2, hp.symm, kW_mem c1⟩
  refine ⟨fun k p hp => ?_, fun i j p q hi hj hpq => ?_, fun k p hp => ?_⟩
  · obtain ⟨c, g, c1, c2, rfl, c4⟩ := key k p hp
    exact finC_ok c2 (hP k _ c4)
  · obtain ⟨c, g, c1, c2, rfl, c4⟩ := key i p hi
    obtain ⟨c', g', c1', c2', rfl, c4'⟩ := key j q hj
    exact hD.1 i j _ _ c4 c4' hpq
  · obtain ⟨c, g, c1, c2, rfl, c4⟩ := key k p hp
    exact hD.2 k (al k, kcell al dA c) c4
set_option maxRecDepth 100000
theorem kTb_ok : kTb.all (chkMe kTb) = true := by decide +kernel
theorem kGl_ok : ∀ kd, kd < 4 → Jvm.Cond.arrayClass (gty kd) ∈ TW := by
  intro kd h
  rcases (show kd = 0 ∨ kd = 1 ∨ kd = 2 ∨ kd = 3 by omega) with rfl | rfl | rfl | rfl <;> decide +kernel
theorem isSome_getD {α : Type} {o : Option (List α)} (h : o.isSome = true) : o = some (o.getD []) := by cases o <;> simp_all
theorem kCs1_ok : kM kTb 6 11 0 [.inl (11, k11f)] = some kCs1 := isSome_getD (by decide +kernel)
theorem kCs2_ok : kM kTb 6 12 166 (kCs1 ++ [.inl (12, k12f)]) = some kCs2 := isSome_getD (by decide +kernel)
theorem kCs1_len : kCs1.length = 166 := by decide +kernel
theorem kCs1_wf : kCs1.all (cwf 166) = true := by decide +kernel
theorem kCs2_fin : finL kMu0 kCs2 kG = true := by decide +kernel
