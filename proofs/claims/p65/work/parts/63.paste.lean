/-! PASTE, compared: contracts by slots and widths: laid by wip/gen/gen65.py -/
set_option maxRecDepth 100000
def chk2p (p : Nat × Nat) : Bool := match bAt aCT p.1, bAt aCT p.2 with
  | some tx, some tm => (match kMt[tx.1]?, kMt[tm.1]? with
    | some mx, some mm => Nat.blt p.1 1200 && (Nat.blt p.2 1200 && (chkHead 0 tx.2.1 && (chkHead 166 tm.2.1 && (chkR mx tx.2.1 5 && (chkR mm tm.2.1 5 && (Nat.beq tx.1 139 && (Nat.beq tm.1 305 && (tm.2.1.2.1.all (fun h => Nat.ble 2034 h.1) && caseOK tx.2.1 tm.2.1 true))))))))
    | _, _ => false)
  | _, _ => false
def argS (lo1 hi1 lo3 hi3 : Int) (c : sC) : Bool := match c.1 with
  | [.inr (.inr _), .inl h1, g2, .inl h3, g4, g5] => (decide (h1.1 ≤ lo1) && decide (hi1 ≤ h1.2)) && ((decide (h3.1 ≤ lo3) && decide (hi3 ≤ h3.2)) && (fullI g2 && (fullI g4 && fullI g5)))
  | _ => false
def preS (p1 p2 : Nat) (w1 w2 : Int) (h : Nat × Int × Int) : Bool := (Nat.beq h.1 p1 && (decide (h.2.1 ≤ w1) && decide (w1 ≤ h.2.2))) || (Nat.beq h.1 p2 && (decide (h.2.1 ≤ w2) && decide (w2 ≤ h.2.2)))
def srvA (lo1 hi1 lo3 hi3 : Int) (p : Nat × Nat) : Bool := match bAt aCT p.1, bAt aCT p.2 with
  | some tx, some tm => argS lo1 hi1 lo3 hi3 tx.2.1 && argS lo1 hi1 lo3 hi3 tm.2.1
  | _, _ => false
def srvP (p1 p2 q1 q2 : Nat) (w1 w2 : Int) (p : Nat × Nat) : Bool := match bAt aCT p.1, bAt aCT p.2 with
  | some tx, some tm => tx.2.1.2.1.all (preS p1 p2 w1 w2) && tm.2.1.2.1.all (preS q1 q2 w1 w2)
  | _, _ => false
def noPre (p : Nat × Nat) : Bool := match bAt aCT p.1, bAt aCT p.2 with
  | some tx, some tm => tx.2.1.2.1.isEmpty && tm.2.1.2.1.isEmpty
  | _, _ => false
/-- what the pair asks of the memory holds -/
def prE (mu : gM) (p : Nat × Nat) : Prop := (∀ tx, bAt aCT p.1 = some tx → ∀ h ∈ tx.2.1.2.1, h.2.1 ≤ mu h.1 ∧ mu h.1 ≤ h.2.2) ∧ (∀ tm, bAt aCT p.2 = some tm → ∀ h ∈ tm.2.1.2.1, h.2.1 ≤ mu h.1 ∧ mu h.1 ≤ h.2.2)
theorem noPre_ok {mu : gM} {p : Nat × Nat} (h : noPre p = true) : prE mu p := by
  unfold noPre at h
  split at h
  · rename_i tx tm ex em
    simp only [Bool.and_eq_true, List.isEmpty_iff] at h
    refine ⟨fun t e h' hh => ?_, fun t e h' hh => ?_⟩
    · cases ex.symm.trans e
      rw [h.1] at hh
      exact absurd hh List.not_mem_nil
    · cases em.symm.trans e
      rw [h.2] at hh
      exact absurd hh List.not_mem_nil
  · cases h
theorem preS_ok {mu : gM} {w1 w2 : Int} {r1 r2 : Nat} {hh : Nat × Int × Int} (f1 : mu r1 = w1) (f2 : mu r2 = w2) (w : preS r1 r2 w1 w2 hh = true) : hh.2.1 ≤ mu hh.1 ∧ mu hh.1 ≤ hh.2.2 := by
  unfold preS at w
  simp only [Bool.or_eq_true, Bool.and_eq_true, Nat.beq_eq, decide_eq_true_eq] at w
  rcases w with ⟨w0, w⟩ | ⟨w0, w⟩
  · rw [w0, f1]
    exact w
  · rw [w0, f2]
    exact w
theorem srvP_ok {mu : gM} {p : Nat × Nat} {w1 w2 : Int} {p1 p2 q1 q2 : Nat} (h : srvP p1 p2 q1 q2 w1 w2 p = true) (e1 : mu p1 = w1) (e2 : mu p2 = w2) (e3 : mu q1 = w1) (e4 : mu q2 = w2) : prE mu p := by
  unfold srvP at h
  split at h
  · rename_i tx tm ex em
    simp only [Bool.and_eq_true, List.all_eq_true] at h
    refine ⟨fun t e h' hh => ?_, fun t e h' hh => ?_⟩
    · cases ex.symm.trans e
      exact preS_ok e1 e2 (h.1 h' hh)
    · cases em.symm.trans e
      exact preS_ok e3 e4 (h.2 h' hh)
  · cases h
theorem argS_ok {lo1 hi1 lo3 hi3 : Int} {c : sC} {k0 : Nat} {a : Nat → Int32} (hh : chkHead k0 c = true) (h : argS lo1 hi1 lo3 hi3 c = true) (h1 : lo1 ≤ (a 1).toInt ∧ (a 1).toInt ≤ hi1) (h3 : lo3 ≤ (a 3).toInt ∧ (a 3).toInt ≤ hi3) : gArgOK c.1 (gR k0 :: aOf 5 a) := by
  have e : aOf 5 a = [gI (a 1), gI (a 2), gI (a 3), gI (a 4), gI (a 5)] := rfl
  rw [e]
  unfold chkHead at hh
  unfold argS at h
  split at hh
  · rename_i k gs ek
    rw [Nat.beq_eq] at hh
    subst hh
    split at h
    · rename_i o g1 g2 g3 g4 g5 eq
      rw [ek] at eq
      cases eq
      rw [ek]
      simp only [Bool.and_eq_true, decide_eq_true_eq] at h
      obtain ⟨⟨a1, a2⟩, ⟨a3, a4⟩, f2, f4, f5⟩ := h
      exact ⟨rfl, ⟨by omega, by omega⟩, fullI_ok f2 (a 2) ⟨⟨by omega, by omega⟩, fullI_ok f4 (a 4) (fullI_ok f5 (a 5) trivial)⟩⟩
    · cases h
  · cases hh
theorem ok_pre {q : hQ} {p : Nat × Nat} (h : chk2p p = true) (hq : q.2.1 = 5) (lx : lkP kMt lawN (0, q.2.2.2.1, 139, 0, 5)) (lm : lkP kMt lawN (0, q.2.2.2.2, 305, 0, 5)) {X : gX} {adV : Nat → Nat} {mu : gM} {a : Nat → Int32} (hOK : gOK X) (hOE : gOE X adV) (hrm : gXR X = room_1) (ho : gXo X = "TwinVoiceLaw") (hG : gXG X = kG) (hinv : kInv mu)
    {lo1 hi1 lo3 hi3 : Int} (hs : srvA lo1 hi1 lo3 hi3 p = true) (h1 : lo1 ≤ (a 1).toInt ∧ (a 1).toInt ≤ hi1) (h3 : lo3 ≤ (a 3).toInt ∧ (a 3).toInt ≤ hi3) (hpr : prE mu p) : hCase X q (aOf q.2.1 a) mu kInv := by
  rw [hq]
  unfold chk2p at h
  unfold srvA at hs
  split at h
  · rename_i tx tm ex em
    rw [ex, em] at hs
    simp only [Bool.and_eq_true] at hs
    obtain ⟨sx, sm⟩ := hs
    have px := hpr.1 tx ex
    have pm := hpr.2 tm em
    split at h
    · rename_i mx mm emx emm
      simp only [Bool.and_eq_true, Nat.blt_eq, Nat.beq_eq, Nat.ble_eq, List.all_eq_true] at h
      obtain ⟨l1, l2, k1, k2, k3, k4, i1, i2, hge, hc⟩ := h
      rw [← i1] at lx
      rw [← i2] at lm
      have ax := argS_ok (a := a) k1 sx h1 h3
      have am := argS_ok (a := a) k2 sm h1 h3
      obtain ⟨gx, cix, fsx, Tx, Nx, x1, x2, x3, x4⟩ := gAt_cls (X := X) hG kg1 (kMt_ok mx (List.mem_of_getElem? emx)) k1 k3
      obtain ⟨gm, cim, fsm, Tm, Nm, m1, m2, m3, m4⟩ := gAt_cls (X := X) hG kg1 (kMt_ok mm (List.mem_of_getElem? emm)) k2 k4
      obtain ⟨mx', f1, gx1, wx, -, -, -⟩ := lkP_of lx (show (0 : Nat) ≠ 4 ∧ (0 : Nat) ≠ 5 ∧ (0 : Nat) ≠ 6 by decide)
      cases emx.symm.trans f1
      obtain ⟨mm', f2, gm1, wm, -, -, -⟩ := lkP_of lm (show (0 : Nat) ≠ 4 ∧ (0 : Nat) ≠ 5 ∧ (0 : Nat) ≠ 6 by decide)
      cases emm.symm.trans f2
      have wx := wx rfl
      have wm := wm rfl
      simp only [lawN] at gx1 gm1 wx wm
      rw [← ho] at gx1 gm1 wx wm
      have cX := aTab (gXl X) 1200 p.1 l1 _ _ ex emx
      have cM := aTab (gXl X) 1200 p.2 l2 _ _ em emm
      rw [← hG] at cX cM
      refine ⟨_, hCal.of hOK hOE hrm (d' := p.1 + 5) (by omega) (cX (gR 0 :: aOf 5 a) mu ax hinv.1 px) gx1 wx.1 wx.2.1 wx.2.2 x3 x4 rfl, fun r mu1 hpost => ?_⟩
      obtain ⟨x, hx, hxo⟩ := hpost
      have hcc := hc
      simp only [caseOK, Bool.and_eq_true, List.all_eq_true] at hcc
      obtain ⟨zx, rfl⟩ := isInt_ok (hcc.1 x hx).1 hxo
      have hu : ∀ p, 2034 ≤ p → mu1 p = mu p := fun p hp => xok_at hxo p (lk_none _ _ (fun e he => by
        have := (hcc.1 x hx).2 e he
        rw [Nat.blt_eq] at this
        omega))
      refine ⟨zx, rfl, _, hCal.of hOK hOE hrm (d' := p.2 + 5) (by omega) (cM (gR 166 :: aOf 5 a) mu1 am (xok_prof hxo) (fun h hh => by
        rw [hu h.1 (hge h hh)]
        exact pm h hh)) gm1 wm.1 wm.2.1 wm.2.2 m3 m4 rfl, fun r2 mu2 hpost2 => ?_⟩
      obtain ⟨y, hy, hyo⟩ := hpost2
      obtain ⟨z1, z2, q1', q2', q3', q4'⟩ := pair_ok hc hx hy hinv ax hxo hyo
      cases q1'
      exact ⟨z2, q2', fun _ => q3' rfl, q4'⟩
    · cases h
  · cases h
def blkOK (s t : Nat) (L : List (Nat × Nat)) : Bool := L.all (fun p => chk2p p && srvA (s : Int) (s : Int) (t : Int) (t : Int) p) && (List.range 4).all (fun w1 => (List.range 4).all (fun w2 => L.any (srvP (1786 + 62 * s) (1786 + 62 * t) (3444 + s) (3444 + t) (w1 : Int) (w2 : Int))))
theorem ps0 : (chk2p (580, 581) && (srvA (-2147483648) (-1) (-2147483648) 2147483647 (580, 581) && noPre (580, 581))) = true := by decide +kernel
theorem ps1 : (chk2p (582, 583) && (srvA 4 2147483647 (-2147483648) 2147483647 (582, 583) && noPre (582, 583))) = true := by decide +kernel
theorem ps2 : (chk2p (584, 585) && (srvA 0 3 (-2147483648) (-1) (584, 585) && noPre (584, 585))) = true := by decide +kernel
theorem ps3 : (chk2p (586, 587) && (srvA 0 3 4 2147483647 (586, 587) && noPre (586, 587))) = true := by decide +kernel
def pB00 : List (Nat × Nat) := [(588, 589)]
theorem pB00_s : blkOK 0 0 pB00 = true := by decide +kernel
def pB01 : List (Nat × Nat) := [(590, 591), (592, 593), (594, 595), (596, 597), (598, 599), (600, 601), (602, 603), (604, 605), (606, 607), (608, 609)]
theorem pB01_s : blkOK 0 1 pB01 = true := by decide +kernel
def pB02 : List (Nat × Nat) := [(610, 611), (612, 613), (614, 615), (616, 617), (618, 619), (620, 621), (622, 623), (624, 625), (626, 627), (628, 629)]
theorem pB02_s : blkOK 0 2 pB02 = true := by decide +kernel
def pB03 : List (Nat × Nat) := [(630, 631), (632, 633), (634, 635), (636, 637), (638, 639), (640, 641), (642, 643), (644, 645), (646, 647), (648, 649)]
theorem pB03_s : blkOK 0 3 pB03 = true := by decide +kernel
def pB10 : List (Nat × Nat) := [(650, 651), (652, 653), (654, 655), (656, 657), (658, 659), (660, 661), (662, 663), (664, 665), (666, 667), (668, 669)]
theorem pB10_s : blkOK 1 0 pB10 = true := by decide +kernel
def pB11 : List (Nat × Nat) := [(670, 671)]
theorem pB11_s : blkOK 1 1 pB11 = true := by decide +kernel
def pB12 : List (Nat × Nat) := [(672, 673), (674, 675), (676, 677), (678, 679), (680, 681), (682, 683), (684, 685), (686, 687), (688, 689), (690, 691)]
theorem pB12_s : blkOK 1 2 pB12 = true := by decide +kernel
def pB13 : List (Nat × Nat) := [(692, 693), (694, 695), (696, 697), (698, 699), (700, 701), (702, 703), (704, 705), (706, 707), (708, 709), (710, 711)]
theorem pB13_s : blkOK 1 3 pB13 = true := by decide +kernel
def pB20 : List (Nat × Nat) := [(712, 713), (714, 715), (716, 717), (718, 719), (720, 721), (722, 723), (724, 725), (726, 727), (728, 729), (730, 731)]
theorem pB20_s : blkOK 2 0 pB20 = true := by decide +kernel
def pB21 : List (Nat × Nat) := [(732, 733), (734, 735), (736, 737), (738, 739), (740, 741), (742, 743), (744, 745), (746, 747), (748, 749), (750, 751)]
theorem pB21_s : blkOK 2 1 pB21 = true := by decide +kernel
def pB22 : List (Nat × Nat) := [(752, 753)]
theorem pB22_s : blkOK 2 2 pB22 = true := by decide +kernel
def pB23 : List (Nat × Nat) := [(754, 755), (756, 757), (758, 759), (760, 761), (762, 763), (764, 765), (766, 767), (768, 769), (770, 771), (772, 773)]
theorem pB23_s : blkOK 2 3 pB23 = true := by decide +kernel
def pB30 : List (Nat × Nat) := [(774, 775), (776, 777), (778, 779), (780, 781), (782, 783), (784, 785), (786, 787), (788, 789), (790, 791), (792, 793)]
theorem pB30_s : blkOK 3 0 pB30 = true := by decide +kernel
def pB31 : List (Nat × Nat) := [(794, 795), (796, 797), (798, 799), (800, 801), (802, 803), (804, 805), (806, 807), (808, 809), (810, 811), (812, 813)]
theorem pB31_s : blkOK 3 1 pB31 = true := by decide +kernel
def pB32 : List (Nat × Nat) := [(814, 815), (816, 817), (818, 819), (820, 821), (822, 823), (824, 825), (826, 827), (828, 829), (830, 831), (832, 833)]
theorem pB32_s : blkOK 3 2 pB32 = true := by decide +kernel
def pB33 : List (Nat × Nat) := [(834, 835)]
theorem pB33_s : blkOK 3 3 pB33 = true := by decide +kernel
theorem wid_pr : ∀ s, s < 4 → spAt kP (1786 + 62 * s) = some (0, 3) := by decide +kernel
theorem wid_R : ∀ s, s < 4 → (1786 + 62 * s, 3444 + s) ∈ kR := by decide +kernel
theorem ok_blk {q : hQ} {s t : Nat} (hs4 : s < 4) (ht4 : t < 4) {L : List (Nat × Nat)} (hb : blkOK s t L = true) (hq : q.2.1 = 5) (lx : lkP kMt lawN (0, q.2.2.2.1, 139, 0, 5)) (lm : lkP kMt lawN (0, q.2.2.2.2, 305, 0, 5)) {X : gX} {adV : Nat → Nat} {mu : gM} {a : Nat → Int32} (hOK : gOK X) (hOE : gOE X adV) (hrm : gXR X = room_1) (ho : gXo X = "TwinVoiceLaw") (hG : gXG X = kG) (hinv : kInv mu) (h1 : (a 1).toInt = (s : Int)) (h3 : (a 3).toInt = (t : Int)) : hCase X q (aOf q.2.1 a) mu kInv := by
  obtain ⟨t1, t2⟩ := prof_at hinv.1 _ (wid_pr s hs4)
  obtain ⟨t3, t4⟩ := prof_at hinv.1 _ (wid_pr t ht4)
  have r1 := hinv.2.2 _ (wid_R s hs4)
  have r2 := hinv.2.2 _ (wid_R t ht4)
  simp only at r1 r2
  obtain ⟨w1, e1⟩ : ∃ w : Nat, mu (1786 + 62 * s) = (w : Int) := ⟨(mu (1786 + 62 * s)).toNat, by omega⟩
  obtain ⟨w2, e2⟩ : ∃ w : Nat, mu (1786 + 62 * t) = (w : Int) := ⟨(mu (1786 + 62 * t)).toNat, by omega⟩
  unfold blkOK at hb
  rw [Bool.and_eq_true] at hb
  obtain ⟨hc, hb⟩ := hb
  have hb := List.all_eq_true.mp (List.all_eq_true.mp hb w1 (List.mem_range.mpr (by omega))) w2 (List.mem_range.mpr (by omega))
  obtain ⟨p, hp, hsv⟩ := List.any_eq_true.mp hb
  have hc := List.all_eq_true.mp hc p hp
  rw [Bool.and_eq_true] at hc
  exact ok_pre hc.1 hq lx lm hOK hOE hrm ho hG hinv hc.2 ⟨by omega, by omega⟩ ⟨by omega, by omega⟩ (srvP_ok hsv e1 e2 (by rw [← r1]; exact e1) (by rw [← r2]; exact e2))
theorem ok_out {q : hQ} {p : Nat × Nat} {lo1 hi1 lo3 hi3 : Int} (hc : (chk2p p && (srvA lo1 hi1 lo3 hi3 p && noPre p)) = true) (hq : q.2.1 = 5) (lx : lkP kMt lawN (0, q.2.2.2.1, 139, 0, 5)) (lm : lkP kMt lawN (0, q.2.2.2.2, 305, 0, 5)) {X : gX} {adV : Nat → Nat} {mu : gM} {a : Nat → Int32} (hOK : gOK X) (hOE : gOE X adV) (hrm : gXR X = room_1) (ho : gXo X = "TwinVoiceLaw") (hG : gXG X = kG) (hinv : kInv mu) (h1 : lo1 ≤ (a 1).toInt ∧ (a 1).toInt ≤ hi1) (h3 : lo3 ≤ (a 3).toInt ∧ (a 3).toInt ≤ hi3) : hCase X q (aOf q.2.1 a) mu kInv := by
  simp only [Bool.and_eq_true] at hc
  exact ok_pre hc.1 hq lx lm hOK hOE hrm ho hG hinv hc.2.1 h1 h3 (noPre_ok hc.2.2)
theorem ok_paste {q : hQ} (hq : q.2.1 = 5) (lx : lkP kMt lawN (0, q.2.2.2.1, 139, 0, 5)) (lm : lkP kMt lawN (0, q.2.2.2.2, 305, 0, 5)) : okQ q := by
  intro X adV mu a hOK hOE hrm ho hG hinv
  have b1 := i32_rng (a 1)
  have b3 := i32_rng (a 3)
  by_cases c1 : (a 1).toInt < 0
  · exact ok_out ps0 hq lx lm hOK hOE hrm ho hG hinv ⟨b1.1, by omega⟩ b3
  by_cases c2 : 3 < (a 1).toInt
  · exact ok_out ps1 hq lx lm hOK hOE hrm ho hG hinv ⟨by omega, b1.2⟩ b3
  by_cases c3 : (a 3).toInt < 0
  · exact ok_out ps2 hq lx lm hOK hOE hrm ho hG hinv ⟨by omega, by omega⟩ ⟨b3.1, by omega⟩
  by_cases c4 : 3 < (a 3).toInt
  · exact ok_out ps3 hq lx lm hOK hOE hrm ho hG hinv ⟨by omega, by omega⟩ ⟨by omega, b3.2⟩
  have k1 : (a 1).toInt = 0 ∨ (a 1).toInt = 1 ∨ (a 1).toInt = 2 ∨ (a 1).toInt = 3 := by omega
  have k3 : (a 3).toInt = 0 ∨ (a 3).toInt = 1 ∨ (a 3).toInt = 2 ∨ (a 3).toInt = 3 := by omega
  rcases k1 with k1 | k1 | k1 | k1 <;> rcases k3 with k3 | k3 | k3 | k3
  · exact ok_blk (s := 0) (t := 0) (by decide) (by decide) pB00_s hq lx lm hOK hOE hrm ho hG hinv k1 k3
  · exact ok_blk (s := 0) (t := 1) (by decide) (by decide) pB01_s hq lx lm hOK hOE hrm ho hG hinv k1 k3
  · exact ok_blk (s := 0) (t := 2) (by decide) (by decide) pB02_s hq lx lm hOK hOE hrm ho hG hinv k1 k3
  · exact ok_blk (s := 0) (t := 3) (by decide) (by decide) pB03_s hq lx lm hOK hOE hrm ho hG hinv k1 k3
  · exact ok_blk (s := 1) (t := 0) (by decide) (by decide) pB10_s hq lx lm hOK hOE hrm ho hG hinv k1 k3
  · exact ok_blk (s := 1) (t := 1) (by decide) (by decide) pB11_s hq lx lm hOK hOE hrm ho hG hinv k1 k3
  · exact ok_blk (s := 1) (t := 2) (by decide) (by decide) pB12_s hq lx lm hOK hOE hrm ho hG hinv k1 k3
  · exact ok_blk (s := 1) (t := 3) (by decide) (by decide) pB13_s hq lx lm hOK hOE hrm ho hG hinv k1 k3
  · exact ok_blk (s := 2) (t := 0) (by decide) (by decide) pB20_s hq lx lm hOK hOE hrm ho hG hinv k1 k3
  · exact ok_blk (s := 2) (t := 1) (by decide) (by decide) pB21_s hq lx lm hOK hOE hrm ho hG hinv k1 k3
  · exact ok_blk (s := 2) (t := 2) (by decide) (by decide) pB22_s hq lx lm hOK hOE hrm ho hG hinv k1 k3
  · exact ok_blk (s := 2) (t := 3) (by decide) (by decide) pB23_s hq lx lm hOK hOE hrm ho hG hinv k1 k3
  · exact ok_blk (s := 3) (t := 0) (by decide) (by decide) pB30_s hq lx lm hOK hOE hrm ho hG hinv k1 k3
  · exact ok_blk (s := 3) (t := 1) (by decide) (by decide) pB31_s hq lx lm hOK hOE hrm ho hG hinv k1 k3
  · exact ok_blk (s := 3) (t := 2) (by decide) (by decide) pB32_s hq lx lm hOK hOE hrm ho hG hinv k1 k3
  · exact ok_blk (s := 3) (t := 3) (by decide) (by decide) pB33_s hq lx lm hOK hOE hrm ho hG hinv k1 k3
