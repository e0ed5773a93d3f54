/-! CONSTRUCTORS: new T[n][m], contracts, calls, ends -/
section KROWS3
variable {X : gX} {lv : kLv} {n0 nc ns pc : Nat} {st : List gV} {cs : List kC}
theorem kGrow {D : va_G} {al al' : Nat → Nat} {dA : Nat → ClassId} {A : Nat → Prop} {new : List kC} {H H1 : Heap} (hal : ∀ k, k < cs.length → al' k = al k) (hnew : ∀ j, j < new.length → al' (cs.length + j) = H.size + j) (hP : va_P D vwCl (kW al dA 0 cs) H) (hD : va_D A (kW al dA 0 cs)) (hA : ∀ q, H.size ≤ q → A q) (hold : ∀ q, q < H.size → H1[q]? = H[q]?)
    (hat : ∀ j c, new[j]? = some c → va_at D vwCl (H.size + j, kcell al' dA c) H1) (wc : cs.all (cwf cs.length) = true) : va_P D vwCl (kW al' dA 0 (cs ++ new)) H1 ∧ va_D A (kW al' dA 0 (cs ++ new)) := by
  have e : kW al' dA 0 (cs ++ new) = kW al dA 0 cs ++ kW al' dA cs.length new := by rw [kW_app, Nat.zero_add, kW_agree hal cs 0 wc (by omega)]
  have hn : ∀ j p, (kW al' dA cs.length new)[j]? = some p → ∃ c, new[j]? = some c ∧ p = (H.size + j, kcell al' dA c) := fun j p hp => by
    rw [kW_at] at hp
    cases hc : new[j]? with
    | none => rw [hc] at hp; cases hp
    | some c =>
      rw [hc] at hp
      simp only [Option.map_some, Option.some.injEq] at hp
      refine ⟨c, rfl, ?_⟩
      rw [← hp, hnew j (List.getElem?_eq_some_iff.mp hc).1]
  rw [e]
  refine ⟨(hP.kept (fun k x hx => hold x.1 ((hP k x hx).lt))).app (fun j p hp => ?_), hD.app ⟨fun i j p q hi hj hpq => ?_, fun j p hp => ?_⟩ (fun i j p q hi hj hpq => ?_)⟩
  · obtain ⟨c, h1, rfl⟩ := hn j p hp
    exact hat j c h1
  · obtain ⟨c, h1, rfl⟩ := hn i p hi
    obtain ⟨c2, h2, rfl⟩ := hn j q hj
    simp only at hpq
    omega
  · obtain ⟨c, h1, rfl⟩ := hn j p hp
    exact hA _ (by simp)
  · obtain ⟨c, h1, rfl⟩ := hn j q hj
    have := (hP i p hi).lt
    simp only at hpq
    omega
def kRow2 (len n k : Nat) : List kC := .inr (.inr (6, (List.range n).map (fun i => some (len + 1 + i)))) :: List.replicate n (.inr (.inl (0, List.replicate k 0)))
theorem vr_outer2 (c : ClassId) (N h0 : Nat) : ∀ i : Nat, Jvm.Free.Multi.outerC c N h0 i = arrV c N (fun j => va_rf (if j < i then some (h0 + 1 + j) else none))
  | 0 => by
    show ({ cls := c, slots := Array.replicate N .null, vm := .none } : Cell) = _
    rw [arrV_new]
    refine congrArg (arrV c N) (funext fun j => ?_)
    simp [va_rf]
  | i + 1 => by
    show (Jvm.Free.Multi.outerC c N h0 i).setSlot i (.ref (h0 + 1 + i)) = _
    rw [vr_outer2 c N h0 i, arrV_store]
    refine congrArg (arrV c N) (funext fun j => ?_)
    by_cases e : j = i
    · subst e
      simp [updV, va_rf]
    · by_cases h : j < i
      · simp [updV, e, h, Nat.lt_succ_of_lt h]
      · simp [updV, e, h, show ¬ j < i + 1 by omega]
theorem k_mna (h : kOK X) {idx N' K' : Nat} {n k : Int32} (hw : Jvm.Cond.classLink (gXo X) idx "[[I" ∈ TW) (hw2 : Jvm.Cond.arrayClass .int ∈ TW) (hn0 : n0 ≤ cs.length) (wc : cs.all (cwf cs.length) = true) (ws : st.all (vwf cs.length) = true) (wl : lwf cs.length lv = true)
    (hn : ¬ n < 0) (hk : ¬ k < 0) (hN : n.toNatClampNeg = N') (hM : k.toNatClampNeg = K') (hb : N' ≤ 60000) (hb' : K' ≤ 60000) (hc1 : nc + (1 + N') ≤ (gXR X).cells) (hc2 : ns + (N' + N' * K') ≤ (gXR X).slots) (hd : decode (gXy X) pc = .ok (.multianewarray idx 2, 4))
    (kk : kJ X lv n0 (nc + 1 + N') (ns + N' + N' * K') (pc + 4) (gR cs.length :: st) (cs ++ kRow2 cs.length N' K')) : kJ X lv n0 nc ns pc (gI k :: gI n :: st) cs := by
  intro al H locs ls ha hP hD hS hl T hT Xs
  subst hN
  subst hM
  have hover : (Cond.arrayOver (.array .int)).before (gXa X) (gXs X) = true := h.2.2.2.2.2
  obtain ⟨vm₁, cA, comp, -, fA, fC, -, -, X', step⟩ := Xs.multianewarray2F (ty := .int) h.1.x h.1.o (h.1.t _ hw) hover (h.1.t _ hw2) (g := F0 (gXm X) pc ls (.int k :: .int n :: st.map (gc al))) rfl (by rw [h.1.b]; exact hd) rfl hn hk (by omega) (by show _ * 4 ≤ _; omega) (by omega) rfl rfl hc1 hc2
  have eA : cA = gXdA X 6 := Option.some.inj (fA.symm.trans (h.1.k.2 6 _ (gtys_at (gXdA X) (by omega))).2)
  have eC : comp = gXdA X 0 := Option.some.inj (fC.symm.trans (h.1.k.2 0 _ (gtys_at (gXdA X) (by omega))).2)
  subst eA
  subst eC
  generalize hF : Jvm.Free.Multi.fill (T.setVm vm₁) (gXdA X 6) (gXdA X 0) n.toNatClampNeg k.toNatClampNeg (defaultValue .int) n.toNatClampNeg = F at X' step
  have hTh : (T.setVm vm₁).heap = H := hT
  obtain ⟨f1, f2, -, -⟩ := Jvm.Free.Multi.fill_facts (T.setVm vm₁) (gXdA X 6) (gXdA X 0) n.toNatClampNeg k.toNatClampNeg (defaultValue .int) n.toNatClampNeg
  rw [hF, hTh] at f1 f2
  have hold : ∀ x : Nat, x < H.size → F.heap[x]? = H[x]? := fun x hx => by
    have := Jvm.Free.Multi.fill_old (T.setVm vm₁) (gXdA X 6) (gXdA X 0) n.toNatClampNeg k.toNatClampNeg (defaultValue .int) (a := x) (by rw [hTh]; exact hx) n.toNatClampNeg
    rw [hF, hTh] at this
    exact this
  have hrow : ∀ j : Nat, j < n.toNatClampNeg → F.heap[H.size + 1 + j]? = some (Jvm.Free.Multi.innerC (gXdA X 0) k.toNatClampNeg (defaultValue .int)) := fun j hj => by
    have := Jvm.Free.Multi.fill_inner (T.setVm vm₁) (gXdA X 6) (gXdA X 0) n.toNatClampNeg k.toNatClampNeg (defaultValue .int) n.toNatClampNeg j hj
    rw [hF, hTh] at this
    exact this
  let al' : Nat → Nat := fun j => if j < cs.length then al j else H.size + (j - cs.length)
  have hag : ∀ j, j < cs.length → al' j = al j := fun j hj => if_pos hj
  have hge : ∀ j, al' (cs.length + j) = H.size + j := fun j => by
    show (if cs.length + j < cs.length then al (cs.length + j) else H.size + (cs.length + j - cs.length)) = _
    rw [if_neg (by omega), Nat.add_sub_cancel_left]
  have hA2 : ∀ q, H.size ≤ q → gXA X q := fun q hq => h.2.1 q (Nat.le_trans hS.1 hq)
  have hat : ∀ j c, (kRow2 cs.length n.toNatClampNeg k.toNatClampNeg)[j]? = some c → va_at (gXdC X, gXdI X) vwCl (H.size + j, kcell al' (gXdA X) c) F.heap := by
    intro j c hj
    cases j with
    | zero =>
      cases hj
      show F.heap[H.size]? = some (vp_cell _ _)
      rw [f2, vr_outer2]
      dsimp only
      rw [vp_cell_q, List.length_map, List.length_range]
      refine congrArg some (garr_eq (fun j hj => ?_))
      rw [if_pos hj]
      show _ = va_rf _
      have e1 : ((List.range n.toNatClampNeg).map (fun i => some (cs.length + 1 + i))).getD j none = some (cs.length + 1 + j) := by
        simp [List.getD, hj]
      rw [e1]
      show va_rf (some (H.size + 1 + j)) = va_rf (some (al' (cs.length + 1 + j)))
      rw [show cs.length + 1 + j = cs.length + (1 + j) by omega, hge, show H.size + 1 + j = H.size + (1 + j) by omega]
    | succ j =>
      have hj2 : (List.replicate n.toNatClampNeg (.inr (.inl (0, List.replicate k.toNatClampNeg 0)) : kC))[j]? = some c := hj
      have hlt : j < n.toNatClampNeg := by
        have := (List.getElem?_eq_some_iff.mp hj2).1
        rwa [List.length_replicate] at this
      rw [List.getElem?_replicate, if_pos hlt] at hj2
      cases hj2
      show F.heap[H.size + (j + 1)]? = some (vp_cell _ _)
      rw [show H.size + (j + 1) = H.size + 1 + j by omega, hrow j hlt]
      show some ({ cls := gXdA X 0, slots := Array.replicate k.toNatClampNeg (defaultValue .int), vm := .none } : Cell) = some (arrV (gXdA X 0) (List.replicate k.toNatClampNeg (0 : Int)).length (fun j => Value.int (Int32.ofInt ((List.replicate k.toNatClampNeg (0 : Int)).getD j 0))))
      rw [arrV_new, List.length_replicate]
      exact congrArg some (garr_eq (fun j hj => by simp [List.getD, hj]; rfl))
  obtain ⟨hP1, hD1⟩ := kGrow hag (fun j _ => hge j) hP hD hA2 hold hat wc
  have := kk al' F.heap locs ls (fun j hj => by rw [hag j (by omega)]; exact ha j hj) hP1 hD1 ⟨Nat.le_trans hS.1 (by omega), fun x h1 h2 => (hold x (Nat.lt_of_lt_of_le h1 hS.1)).trans (hS.2.1 x h1 h2), hS.2.2⟩ (by rw [klv_agree hag wl]; exact hl)
  rw [List.map_cons, gcs_agree hag ws, show gc al' (gR cs.length) = Value.ref H.size from congrArg Value.ref (hge 0)] at this
  obtain ⟨t, a1, b1⟩ := this F rfl X'
  rw [← hT] at a1
  exact ⟨t, step t a1, b1⟩
end KROWS3
