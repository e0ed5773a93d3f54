/-! BY HAND: what is said: numberAt, saidWays, canSay -/
set_option maxRecDepth 100000
theorem giv_use {X : gX} {ins : Instr} {c : sC} (g : sGiv X kP kF 3748 ins c) {pc : Nat} {lv : List (Nat × gV)} {st0 : List gV} {mu : gM} (av sv : List gV) (hs : st0 = av.reverse ++ sv) (hd : decode (gXy X) pc = .ok (ins, 3)) (ha : gArgOK c.1 av) (hp : gProf kP mu) (hpre : ∀ h ∈ c.2.1, h.2.1 ≤ mu h.1 ∧ mu h.1 ≤ h.2.2) (hsum : (sv.map gcat).sum ≤ 8)
    (kk : ∀ x ∈ c.2.2.2, ∀ ret mu', sXOK 3748 kP kF av mu x ret mu' → gG X (pc + 3) lv (retS ret sv) mu') : gG X pc lv st0 mu := by
  subst hs
  exact g pc lv av sv mu hd ha hp hpre hsum kk
theorem xok_k {F : Nat → Int → gM → Int} {av : List gV} {mu mu' : gM} {x : sX} {ret : Option gV} {n : Int} (hx : sXOK 3748 kP F av mu x ret mu') (e : x.1 = some (.inl (.inl (n, [])))) : ∃ z, ret = some (gI z) ∧ z.toInt = n := by
  obtain ⟨rho, -, hr, -⟩ := hx
  rw [e] at hr
  rcases ret with _ | ((z | z) | z)
  · exact hr.elim
  · exact ⟨z, rfl, (show z.toInt = n + 0 from hr).trans (by omega)⟩
  · exact hr.elim
  · exact hr.elim
theorem xok_none {F : Nat → Int → gM → Int} {av : List gV} {mu mu' : gM} {x : sX} {ret : Option gV} (hx : sXOK 3748 kP F av mu x ret mu') (e : x.1 = none) : ret = none := by
  obtain ⟨rho, -, hr, -⟩ := hx
  rw [e] at hr
  rcases ret with _ | v
  · rfl
  · exact hr.elim
theorem xok_argL {F : Nat → Int → gM → Int} {av : List gV} {mu mu' : gM} {x : sX} {ret : Option gV} (hx : sXOK 3748 kP F av mu x ret mu') {j : Nat} {z : Int64} {lo hi : Int} (hj : j < 9) (hv : av[j]? = some (gL z)) (hm : (3748 + j, lo, hi) ∈ x.2.2.1) : lo ≤ z.toInt ∧ z.toInt ≤ hi := by
  obtain ⟨rho, h0, -, -, -, hi', -⟩ := hx
  have e : rho (3748 + j) = z.toInt := h0.2.1 j _ hv hj
  have := hi' _ hm
  simp only at this
  rw [e] at this
  exact this
theorem xok_argI {F : Nat → Int → gM → Int} {av : List gV} {mu mu' : gM} {x : sX} {ret : Option gV} (hx : sXOK 3748 kP F av mu x ret mu') {j : Nat} {z : Int32} {lo hi : Int} (hj : j < 9) (hv : av[j]? = some (gI z)) (hm : (3748 + j, lo, hi) ∈ x.2.2.1) : lo ≤ z.toInt ∧ z.toInt ≤ hi := by
  obtain ⟨rho, h0, -, -, -, hi', -⟩ := hx
  have e : rho (3748 + j) = z.toInt := h0.2.1 j _ hv hj
  have := hi' _ hm
  simp only at this
  rw [e] at this
  exact this
theorem xok_prof {F : Nat → Int → gM → Int} {av : List gV} {mu mu' : gM} {x : sX} {ret : Option gV} (hx : sXOK 3748 kP F av mu x ret mu') : gProf kP mu' := hx.choose_spec.2.2.1
theorem xok_at {F : Nat → Int → gM → Int} {av : List gV} {mu mu' : gM} {x : sX} {ret : Option gV} (hx : sXOK 3748 kP F av mu x ret mu') (p : Nat) (e : sLook x.2.1 p = none) : mu' p = mu p := by
  obtain ⟨rho, -, -, -, hm, -, -⟩ := hx
  have := hm p
  rw [e] at this
  exact this
theorem i32_rng2 (z : Int32) : -2147483648 ≤ z.toInt ∧ z.toInt ≤ 2147483647 := i32_range z
theorem nI_at (z : Int32) (h : 0 ≤ z.toInt) : z = nI z.toInt.toNat := by
  have := i32_rng2 z
  rw [← Int32.toInt_inj, nI_toInt (by omega)]
  omega
theorem num_pr : ∀ i, i < 240 → spAt kP (3448 + i) = some (-9223372036854775808, 9223372036854775807) := by decide +kernel
theorem said_pr : ∀ i, i < 9 → spAt kP (2145 + i) = some (0, 17) := by decide +kernel
theorem i64_of {n : Int} (h1 : -9223372036854775808 ≤ n) (h2 : n ≤ 9223372036854775807) : (Int64.ofInt n).toInt = n := Int64.toInt_ofInt_of_le (by omega) (by omega)
/-- what stands at a place of a slot's row -/
theorem numberAt_ok (l : Launch) (d : Nat) {a b : Nat} (ha : a < 4) (hb : b < 60) (mu : gM) : gMet l d yX12_numberAt cX12_numberAt 3 (some .long) kG [gR 166, gI (nI a), gI (nI b)] mu (fun r mu' => r = some (gL (Int64.ofInt (mu (3448 + (60 * a + b))))) ∧ mu' = mu) := by
  refine gMet.of (by decide) (show 1 + (1 + (1 + 0)) ≤ 3 by decide) (fun X adV hI => ?_)
  have Y := mF.of hI (C := kkX12_numberAt) kwX12 kdX12_numberAt
  obtain ⟨h, hK, hG, hC⟩ := id Y
  have hk : ∀ (r : Nat) (c : gC), kG[r]? = some c → (gXG X)[r]? = some c := fun r c e => by rw [hG]; exact e
  have e60 : ((Int8.ofInt 60).toInt32).toInt = 60 := by decide
  have em : (Int8.ofInt 60).toInt32 * nI a = nI (60 * a) := by
    rw [← Int32.toInt_inj, Int32.toInt_mul, e60, nI_toInt (by omega), nI_toInt (by omega), Int.bmod_eq_of_le (by omega) (by omega)]
    omega
  have ei : (Int8.ofInt 60).toInt32 * nI a + nI b = nI (60 * a + b) := by
    rw [em, nI_add]
  refine g_aload_n (pc := 0) (o := some 166) h (hC 0 (.aload_n 0, 1) rfl) (List.mem_cons_self) ?_
  refine m_get (pc := 1) (i := 64) (z := .inr 182) Y (by decide +kernel) rfl ?_
  refine g_bipush (pc := 4) h (hC 4 (.bipush 60, 2) rfl) ?_
  refine g_iload_n (pc := 6) (x := (nI a)) h (hC 6 (.iload_n 1, 1) rfl) (List.mem_cons_of_mem _ List.mem_cons_self) ?_
  refine g_imul (pc := 7) h (hC 7 (.imul, 1) rfl) ?_
  refine g_iload_n (pc := 8) (x := (nI b)) h (hC 8 (.iload_n 2, 1) rfl) (List.mem_cons_of_mem _ (List.mem_cons_of_mem _ List.mem_cons_self)) ?_
  refine g_iadd (pc := 9) h (hC 9 (.iadd, 1) rfl) ?_
  rw [ei]
  refine g_laload (pc := 10) (k := 182) (b := 3448) (n := 240) h (hk 182 (.inr (.inl (3, 3448, 240))) rfl) (vp_in_nI (by omega) (by decide)) (hC 10 (.laload, 1) rfl) ?_
  rw [nI_clamp (by omega)]
  exact g_lreturn (pc := 11) hI (hC 11 (.lreturn, 1) rfl) ⟨rfl, rfl⟩
/-- bits of an int -/
def bit32 (w : Int32) (e : Nat) : Bool := w.toBitVec.getLsbD e
theorem bit_or (a b : Int32) (e : Nat) : bit32 (a ||| b) e = (bit32 a e || bit32 b e) := by
  unfold bit32
  rw [Int32.toBitVec_or, BitVec.getLsbD_or]
theorem bit_and (a b : Int32) (e : Nat) : bit32 (a &&& b) e = (bit32 a e && bit32 b e) := by
  unfold bit32
  rw [Int32.toBitVec_and, BitVec.getLsbD_and]
theorem bit_one : ∀ e, e < 18 → bit32 (Int32.ofInt 1 <<< (Int32.ofInt (e : Nat) &&& 31)) e = true := by decide +kernel
theorem bit_three : ∀ v, v < 18 → ∀ e, e < 18 → e / 2 = v / 2 → bit32 (Int32.ofInt 3 <<< ((nI v / Int32.ofInt 2 * Int32.ofInt 2) &&& 31)) e = true := by decide +kernel
theorem bit_zero (e : Nat) : bit32 0 e = false := by
  unfold bit32
  show (0 : BitVec 32).getLsbD e = false
  simp
/-- what was said, as bits -/
theorem saidWays_ok (l : Launch) (d : Nat) (mu : gM) (hp : gProf kP mu) : gMet l d yX12_saidWays cX12_saidWays 3 (some .int) kG [gR 166] mu (fun r mu' => (∃ w, r = some (gI w) ∧ ∀ i : Nat, (i : Int) < mu 2059 → bit32 w (mu (2145 + i)).toNat = true) ∧ mu' = mu) := by
  refine gMet.of (by decide) (show 1 + 0 ≤ 3 by decide) (fun X adV hI => ?_)
  have Y := mF.of hI (C := kkX12_saidWays) kwX12 kdX12_saidWays
  obtain ⟨h, hK, hG, hC⟩ := id Y
  have hn := hI.2.2.2.2.2.2.1
  have hN1 : ((1 : Fin 4) : Nat) < gXn X := by rw [hn]; decide
  have hN2 : ((2 : Fin 4) : Nat) < gXn X := by rw [hn]; decide
  have hN2' : 2 < gXn X := by rw [hn]; decide
  obtain ⟨s1, s2⟩ := prof_at hp 2059 (lo := 0) (hi := 9) (by decide +kernel)
  have es : (Int32.ofInt (mu 2059)).toInt = mu 2059 := i32_of (by omega) (by omega)
  have hk : ∀ (r : Nat) (c : gC), kG[r]? = some c → (gXG X)[r]? = some c := fun r c e => by rw [hG]; exact e
  have loop : ∀ n k (w : Int32), k + n = (mu 2059).toNat → (∀ i, i < k → bit32 w (mu (2145 + i)).toNat = true) → gG X 4 [(2, gI (nI k)), (1, gI w), (0, gR 166)] [] mu := by
    intro n
    induction n with
    | zero =>
      intro k w hkn hb
      refine g_iload_n (pc := 4) (x := (nI k)) h (hC 4 (.iload_n 2, 1) rfl) (List.mem_cons_self) ?_
      refine g_aload_n (pc := 5) (o := some 166) h (hC 5 (.aload_n 0, 1) rfl) (List.mem_cons_of_mem _ (List.mem_cons_of_mem _ List.mem_cons_self)) ?_
      refine m_get (pc := 6) (i := 9) (z := .inr 167) Y (by decide +kernel) rfl ?_
      refine g_bipush (pc := 9) h (hC 9 (.bipush 6, 2) rfl) ?_
      refine g_iaload (pc := 11) (k := 167) (b := 2053) (n := 101) (i := ((Int8.ofInt 6).toInt32)) h (hk 167 (.inr (.inl (0, 2053, 101))) rfl) (show ¬ (_ ∨ _) by decide) (hC 11 (.iaload, 1) rfl) ?_
      refine g_icmp (pc := 12) (tgt := 35) h (hC 12 (.if_icmp .ge 23, 3) rfl) (by decide) (fun _ => ?_) (fun q => absurd ?_ q)
      · refine g_iload_n (pc := 35) (x := w) h (hC 35 (.iload_n 1, 1) rfl) (List.mem_cons_of_mem _ List.mem_cons_self) ?_
        exact g_ireturn (pc := 36) hI rfl (hC 36 (.ireturn, 1) rfl) ⟨⟨w, rfl, fun i hi => hb i (by omega)⟩, rfl⟩
      · show Int32.ofInt (mu 2059) ≤ nI k
        rw [Int32.le_iff_toInt_le, es, nI_toInt (by omega)]
        omega
    | succ n ih =>
      intro k w hkn hb
      refine g_iload_n (pc := 4) (x := (nI k)) h (hC 4 (.iload_n 2, 1) rfl) (List.mem_cons_self) ?_
      refine g_aload_n (pc := 5) (o := some 166) h (hC 5 (.aload_n 0, 1) rfl) (List.mem_cons_of_mem _ (List.mem_cons_of_mem _ List.mem_cons_self)) ?_
      refine m_get (pc := 6) (i := 9) (z := .inr 167) Y (by decide +kernel) rfl ?_
      refine g_bipush (pc := 9) h (hC 9 (.bipush 6, 2) rfl) ?_
      refine g_iaload (pc := 11) (k := 167) (b := 2053) (n := 101) (i := ((Int8.ofInt 6).toInt32)) h (hk 167 (.inr (.inl (0, 2053, 101))) rfl) (show ¬ (_ ∨ _) by decide) (hC 11 (.iaload, 1) rfl) ?_
      refine g_icmp (pc := 12) (tgt := 35) h (hC 12 (.if_icmp .ge 23, 3) rfl) (by decide) (fun q => ?_) (fun _ => ?_)
      · exfalso
        have q : Int32.ofInt (mu 2059) ≤ nI k := q
        rw [Int32.le_iff_toInt_le, es, nI_toInt (by omega)] at q
        omega
      have e92 : (Int8.ofInt 92).toInt32 + nI k = nI (92 + k) := nI_add 92 k
      refine g_iload_n (pc := 15) (x := w) h (hC 15 (.iload_n 1, 1) rfl) (List.mem_cons_of_mem _ List.mem_cons_self) ?_
      refine g_iconst (pc := 16) h (hC 16 (.iconst 1, 1) rfl) ?_
      refine g_aload_n (pc := 17) (o := some 166) h (hC 17 (.aload_n 0, 1) rfl) (List.mem_cons_of_mem _ (List.mem_cons_of_mem _ List.mem_cons_self)) ?_
      refine m_get (pc := 18) (i := 9) (z := .inr 167) Y (by decide +kernel) rfl ?_
      refine g_bipush (pc := 21) h (hC 21 (.bipush 92, 2) rfl) ?_
      refine g_iload_n (pc := 23) (x := (nI k)) h (hC 23 (.iload_n 2, 1) rfl) (List.mem_cons_self) ?_
      refine g_iadd (pc := 24) h (hC 24 (.iadd, 1) rfl) ?_
      rw [e92]
      refine g_iaload (pc := 25) (k := 167) (b := 2053) (n := 101) h (hk 167 (.inr (.inl (0, 2053, 101))) rfl) (vp_in_nI (by omega) (by decide)) (hC 25 (.iaload, 1) rfl) ?_
      rw [nI_clamp (by omega), show 2053 + (92 + k) = 2145 + k by omega]
      refine g_ishl (pc := 26) h (hC 26 (.ishl, 1) rfl) ?_
      refine g_ior (pc := 27) h (hC 27 (.ior, 1) rfl) ?_
      refine g_istore_n (pc := 28) h (hC 28 (.istore_n 1, 1) rfl) hN1 ?_
      show gG X 29 [(1, gI (w ||| ((Int32.ofInt 1) <<< ((Int32.ofInt (mu (2145 + k))) &&& 31)))), (2, gI (nI k)), (0, gR 166)] [] mu
      refine g_iinc (pc := 29) (x := (nI k)) h (hC 29 (.iinc 2 1, 3) rfl) (List.mem_cons_of_mem _ List.mem_cons_self) hN2 ?_
      show gG X 32 [(2, gI ((nI k) + Int32.ofInt 1)), (1, gI (w ||| ((Int32.ofInt 1) <<< ((Int32.ofInt (mu (2145 + k))) &&& 31)))), (0, gR 166)] [] mu
      rw [show nI k + Int32.ofInt 1 = nI (k + 1) from nI_add k 1]
      refine g_goto (pc := 32) (tgt := 4) h (hC 32 (.goto (-28), 3) rfl) (by decide) ?_
      refine ih (k + 1) _ (by omega) (fun i hi => ?_)
      rw [bit_or]
      by_cases ik : i = k
      · subst ik
        obtain ⟨t1, t2⟩ := prof_at hp _ (said_pr i (by omega))
        have e : mu (2145 + i) = ((mu (2145 + i)).toNat : Int) := by omega
        have b1 := bit_one (mu (2145 + i)).toNat (by omega)
        rw [← e] at b1
        rw [b1, Bool.or_true]
      · rw [hb i (by omega), Bool.true_or]
  refine g_iconst (pc := 0) h (hC 0 (.iconst 0, 1) rfl) ?_
  refine g_istore_n (pc := 1) h (hC 1 (.istore_n 1, 1) rfl) hN1 ?_
  show gG X 2 [(1, gI (Int32.ofInt 0)), (0, gR 166)] [] mu
  refine g_iconst (pc := 2) h (hC 2 (.iconst 0, 1) rfl) ?_
  refine g_istore_n (pc := 3) h (hC 3 (.istore_n 2, 1) rfl) hN2 ?_
  show gG X 4 [(2, gI (Int32.ofInt 0)), (1, gI (Int32.ofInt 0)), (0, gR 166)] [] mu
  exact loop (mu 2059).toNat 0 0 (by omega) (fun i hi => absurd hi (Nat.not_lt_zero i))
def kCanBe : sC := ([.inr (.inr (some 166)), .inl (0, 17)], [], [], [(some (.inl (.inl (0, [(3764, 1)]))), [], [(3764, 0, 1)], [], 1)])
/-- can it be said, these being said: if so its want is not among them -/
theorem canSay_ok (l : Launch) (d : Nat) (hg : ∀ X adV Post, gIn X adV l d yX12_canSay cX12_canSay 3 (some .boolean) kG Post → sGiv X kP kF 3748 (.invokevirtual 265) kCanBe) {v : Nat} (hv : v < 18) (w : Int32) (mu : gM) (hp : gProf kP mu) :
    gMet l d yX12_canSay cX12_canSay 3 (some .boolean) kG [gR 166, gI (nI v), gI w] mu (fun r mu' => (∃ z, r = some (gI z) ∧ (z = 0 ∨ z = 1) ∧ (¬ z = 0 → ∀ e, e < 18 → e / 2 = v / 2 → bit32 w e = false)) ∧ mu' = mu) := by
  refine gMet.of (by decide) (show 1 + (1 + (1 + 0)) ≤ 3 by decide) (fun X adV hI => ?_)
  have Y := mF.of hI (C := kkX12_canSay) kwX12 kdX12_canSay
  obtain ⟨h, hK, hG, hC⟩ := id Y
  have hk : ∀ (r : Nat) (c : gC), kG[r]? = some c → (gXG X)[r]? = some c := fun r c e => by rw [hG]; exact e
  have no : gG X 35 [(0, gR 166), (1, gI (nI v)), (2, gI w)] [] mu := by
    refine g_iconst (pc := 35) h (hC 35 (.iconst 0, 1) rfl) ?_
    exact g_ireturn (pc := 36) hI rfl (hC 36 (.ireturn, 1) rfl) ⟨⟨0, rfl, .inl rfl, fun z => absurd rfl z⟩, rfl⟩
  refine g_aload_n (pc := 0) (o := some 166) h (hC 0 (.aload_n 0, 1) rfl) (List.mem_cons_self) ?_
  refine g_iload_n (pc := 1) (x := (nI v)) h (hC 1 (.iload_n 1, 1) rfl) (List.mem_cons_of_mem _ List.mem_cons_self) ?_
  have ev : (nI v).toInt = (v : Int) := nI_toInt (by omega)
  refine giv_use (hg X adV _ hI) (pc := 2) [gR 166, gI (nI v)] [] rfl (hC 2 (.invokevirtual 265, 3) rfl) ⟨rfl, ⟨by rw [ev]; omega, by rw [ev]; omega⟩, trivial⟩ hp (fun q hq => absurd hq List.not_mem_nil) (by decide) (fun x hx ret mu' hX => ?_)
  rw [List.mem_singleton.mp hx] at hX
  obtain ⟨z, rfl⟩ := isInt_ok rfl hX
  obtain rfl := xok_me hX rfl
  show gG X 5 [(0, gR 166), (1, gI (nI v)), (2, gI w)] [gI z] mu'
  refine g_if (pc := 5) (tgt := 35) h (hC 5 (.ifCond .eq 30, 3) rfl) (by decide) (fun _ => no) (fun _ => ?_)
  refine g_iload_n (pc := 8) (x := w) h (hC 8 (.iload_n 2, 1) rfl) (List.mem_cons_of_mem _ (List.mem_cons_of_mem _ List.mem_cons_self)) ?_
  refine g_iconst (pc := 9) h (hC 9 (.iconst 3, 1) rfl) ?_
  refine g_iload_n (pc := 10) (x := (nI v)) h (hC 10 (.iload_n 1, 1) rfl) (List.mem_cons_of_mem _ List.mem_cons_self) ?_
  refine g_iconst (pc := 11) h (hC 11 (.iconst 2, 1) rfl) ?_
  refine g_idiv (pc := 12) h (hC 12 (.idiv, 1) rfl) (by decide) ?_
  refine g_iconst (pc := 13) h (hC 13 (.iconst 2, 1) rfl) ?_
  refine g_imul (pc := 14) h (hC 14 (.imul, 1) rfl) ?_
  refine g_ishl (pc := 15) h (hC 15 (.ishl, 1) rfl) ?_
  refine g_iand (pc := 16) h (hC 16 (.iand, 1) rfl) ?_
  refine g_if (pc := 17) (tgt := 35) h (hC 17 (.ifCond .ne 18, 3) rfl) (by decide) (fun _ => no) (fun q => ?_)
  have q : ¬ ¬ w &&& (Int32.ofInt 3 <<< ((nI v / Int32.ofInt 2 * Int32.ofInt 2) &&& 31)) = 0 := q
  have q := Classical.not_not.mp q
  refine g_aload_n (pc := 20) (o := some 166) h (hC 20 (.aload_n 0, 1) rfl) (List.mem_cons_self) ?_
  refine m_get (pc := 21) (i := 40) (z := .inr 174) Y (by decide +kernel) rfl ?_
  refine g_iload_n (pc := 24) (x := (nI v)) h (hC 24 (.iload_n 1, 1) rfl) (List.mem_cons_of_mem _ List.mem_cons_self) ?_
  refine g_iaload (pc := 25) (k := 174) (b := 3384) (n := 18) (i := (nI v)) h (hk 174 (.inr (.inl (0, 3384, 18))) rfl) (vp_in_nI hv (by decide)) (hC 25 (.iaload, 1) rfl) ?_
  refine g_iload_n (pc := 26) (x := w) h (hC 26 (.iload_n 2, 1) rfl) (List.mem_cons_of_mem _ (List.mem_cons_of_mem _ List.mem_cons_self)) ?_
  refine g_iand (pc := 27) h (hC 27 (.iand, 1) rfl) ?_
  refine g_if (pc := 28) (tgt := 35) h (hC 28 (.ifCond .ne 7, 3) rfl) (by decide) (fun _ => no) (fun _ => ?_)
  refine g_iconst (pc := 31) h (hC 31 (.iconst 1, 1) rfl) ?_
  refine g_goto (pc := 32) (tgt := 36) h (hC 32 (.goto 4, 3) rfl) (by decide) ?_
  refine g_ireturn (pc := 36) hI rfl (hC 36 (.ireturn, 1) rfl) ⟨⟨1, rfl, .inr rfl, fun _ e he hev => ?_⟩, rfl⟩
  have b1 := bit_three v hv e he hev
  have b2 := bit_and w (Int32.ofInt 3 <<< ((nI v / Int32.ofInt 2 * Int32.ofInt 2) &&& 31)) e
  rw [q, bit_zero, b1, Bool.and_true] at b2
  exact b2.symm
