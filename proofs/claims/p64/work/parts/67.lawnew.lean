/-! two new objects -/
theorem k_astore {X : gX} {lv lv' : kLv} {n0 nc ns pc q : Nat} {st : List gV} {cs : List kC} (h : kOK X) {i : Fin 4} (hd : decode (gXy X) pc = .ok (.astore_n i, 1)) (hn : (i : Nat) < gXn X) (hlv : ∀ al, ((i : Nat), Value.ref (al q)) :: (klv al lv).filter (fun z => !(z.1 == (i : Nat)) && !(z.1 + 1 == (i : Nat) && z.2.category == 2)) = klv al lv') (k : kJ X lv' n0 nc ns (pc + 1) st cs) : kJ X lv n0 nc ns pc (gR q :: st) cs :=
  fun al H locs ls ha hP hD hS hl => lv_astore_n h.1.x h.1.b hd rfl hl hn (hlv al) (fun ls' hl' => k al H locs ls' ha hP hD hS hl')
theorem k_istore {X : gX} {lv lv' : kLv} {n0 nc ns pc : Nat} {x : Int32} {st : List gV} {cs : List kC} (h : kOK X) {i : Fin 4} (hd : decode (gXy X) pc = .ok (.istore_n i, 1)) (hn : (i : Nat) < gXn X) (hlv : ∀ al, ((i : Nat), Value.int x) :: (klv al lv).filter (fun z => !(z.1 == (i : Nat)) && !(z.1 + 1 == (i : Nat) && z.2.category == 2)) = klv al lv') (k : kJ X lv' n0 nc ns (pc + 1) st cs) : kJ X lv n0 nc ns pc (gI x :: st) cs :=
  fun al H locs ls ha hP hD hS hl => lv_istore_n h.1.x h.1.b hd rfl hl hn (hlv al) (fun ls' hl' => k al H locs ls' ha hP hD hS hl')
set_option maxRecDepth 100000
theorem kCs2_wf : kCs2.all (cwf 184) = true := by decide +kernel
theorem kCs2_len : kCs2.length = 184 := by decide +kernel
theorem k11_ok : kDefs TX11 0 14 = some k11f := isSome_getD (by decide +kernel)
theorem k12_ok : kDefs TX12 0 36 = some k12f := isSome_getD (by decide +kernel)
theorem lawAt (p : Nat) (q : Instr × Nat) (h : isAt kkL p q = true) : decode code p = .ok q := chkD_ok kkL_ok p q (isAt_ok h)
theorem new11 (l : Launch) : kMet l 6 yX11_init cX11_init 165 2185 0 [.inl (11, k11f)] kCs1 := kM_ok kTb_ok kGl_ok l 6 11 0 [.inl (11, k11f)] kCs1 (yX11_init, cX11_init, kkI11, kpI11, 165, 2185) kCs1_ok rfl
theorem new12 (l : Launch) : kMet l 6 yX12_init cX12_init 17 1695 166 (kCs1 ++ [.inl (12, k12f)]) kCs2 := kM_ok kTb_ok kGl_ok l 6 12 166 (kCs1 ++ [.inl (12, k12f)]) kCs2 (yX12_init, cX12_init, kkI12, kpI12, 17, 1695) kCs2_ok rfl
/-- two new objects: from the law's entry to its loop -/
theorem law_new {X : gX} (h : kOK X) (hy : gXy X = code) (hn : gXn X = 4) (ho : gXo X = "TwinVoiceLaw") (hR : gXR X = room_1) {b : Nat} (kk : kJ X [(3, .inr (gI 0)), (2, .inr (gR 166)), (1, .inr (gR 0)), (0, .inl (.ref b))] 0 (1 + 165 + 1 + 17) (14 + 2185 + 36 + 1695) 18 [] kCs2) : kJ X [(0, .inl (.ref b))] 0 0 0 0 [] [] := by
  refine k_new (idx := 7) (fs := k11f) h gcl11 (by rw [ho]; decide +kernel) (by decide +kernel) (by decide +kernel) (fun al j hj t ht => kDefs_fs k11_ok al j hj t ht) (Nat.zero_le _) rfl rfl rfl (by decide +kernel) (by rw [hR]; decide) (by rw [hR]; decide) (by rw [hy]; exact lawAt 0 (.new 7, 3) (by decide +kernel)) ?_
  refine k_dup h (by rw [hy]; exact lawAt 3 (.dup, 1) (by decide +kernel)) rfl ?_
  show kJ X [(0, .inl (.ref b))] 0 1 14 4 [gR 0, gR 0] [.inl (11, k11f)]
  refine k_callP (idx := 9) (d' := 6) (mc := 165) (ms := 2185) (q := 0) (st := [gR 0]) (cs := [.inl (11, k11f)]) (cs' := kCs1) h (new11 (gXl X)) (Nat.zero_le _) (by decide +kernel) rfl (by decide +kernel) (by decide +kernel) (by rw [ho]; decide +kernel) (by decide +kernel) rfl (by decide +kernel) (by rw [hR]; decide) (by decide) (by rw [hR]; decide) (by rw [hR]; decide) (by rw [hy]; exact lawAt 4 (.invokespecial 9, 3) (by decide +kernel)) ?_
  refine k_astore (i := 1) (lv' := [(1, .inr (gR 0)), (0, .inl (.ref b))]) h (by rw [hy]; exact lawAt 7 (.astore_n 1, 1) (by decide +kernel)) (by rw [hn]; decide) (fun al => rfl) ?_
  refine k_new (idx := 10) (fs := k12f) h gcl12 (by rw [ho]; decide +kernel) (by decide +kernel) (by decide +kernel) (fun al j hj t ht => kDefs_fs k12_ok al j hj t ht) (Nat.zero_le _) (by rw [kCs1_len]; exact kCs1_wf) rfl (by rw [kCs1_len]; rfl) (by rw [kCs1_len]; decide +kernel) (by rw [hR]; decide) (by rw [hR]; decide) (by rw [hy]; exact lawAt 8 (.new 10, 3) (by decide +kernel)) ?_
  rw [kCs1_len]
  refine k_dup h (by rw [hy]; exact lawAt 11 (.dup, 1) (by decide +kernel)) rfl ?_
  have hl2 : (kCs1 ++ [.inl (12, k12f)] : List kC).length = 167 := by rw [List.length_append, kCs1_len]; rfl
  show kJ X [(1, .inr (gR 0)), (0, .inl (.ref b))] 0 167 2235 12 [gR 166, gR 166] (kCs1 ++ [.inl (12, k12f)])
  refine k_callP (lv := [(1, .inr (gR 0)), (0, .inl (.ref b))]) (n0 := 0) (nc := 167) (ns := 2235) (pc := 12) (idx := 12) (d' := 6) (mc := 17) (ms := 1695) (q := 166) (st := [gR 166]) (cs := kCs1 ++ [.inl (12, k12f)]) (cs' := kCs2) h (new12 (gXl X)) (Nat.zero_le _) (by rw [hl2]; decide +kernel) (by rw [hl2]; rfl) (by decide +kernel) (by decide +kernel) (by rw [ho]; decide +kernel) (by decide +kernel) rfl (by decide +kernel) (by rw [hR]; decide) (by decide) (by rw [hR]; decide) (by rw [hR]; decide) (by rw [hy]; exact lawAt 12 (.invokespecial 12, 3) (by decide +kernel)) ?_
  refine k_astore (i := 2) (lv' := [(2, .inr (gR 166)), (1, .inr (gR 0)), (0, .inl (.ref b))]) h (by rw [hy]; exact lawAt 15 (.astore_n 2, 1) (by decide +kernel)) (by rw [hn]; decide) (fun al => rfl) ?_
  refine k_iconst (n := 0) h (by rw [hy]; exact lawAt 16 (.iconst 0, 1) (by decide +kernel)) ?_
  refine k_istore (i := 3) (lv' := [(3, .inr (gI 0)), (2, .inr (gR 166)), (1, .inr (gR 0)), (0, .inl (.ref b))]) h (by rw [hy]; exact lawAt 17 (.istore_n 3, 1) (by decide +kernel)) (by rw [hn]; decide) (fun al => rfl) ?_
  exact kk
