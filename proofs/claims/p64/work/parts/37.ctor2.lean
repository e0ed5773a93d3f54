/-! CONSTRUCTORS: arrays of references, stores, calls, ends -/
section KROWS2
variable {X : gX} {lv : kLv} {n0 nc ns pc : Nat} {st : List gV} {cs : List kC}
theorem k_anewarray (h : kOK X) {kd n idx : Nat} {C : String} {i : Int32} (hk : kd = 4 ∧ C = "TwinVoice$Valley" ∨ kd = 5 ∧ C = "TwinVoice$Slot") (hw : Jvm.Cond.classLink (gXo X) idx C ∈ TW) (hn0 : n0 ≤ cs.length) (wc : cs.all (cwf cs.length) = true) (ws : st.all (vwf cs.length) = true) (wl : lwf cs.length lv = true)
    (hi : ¬ i < 0) (hn : i.toNatClampNeg = n) (hb : n ≤ 60000) (hc1 : nc + 1 ≤ (gXR X).cells) (hc2 : ns + n ≤ (gXR X).slots) (hd : decode (gXy X) pc = .ok (.anewarray idx, 3))
    (k : kJ X lv n0 (nc + 1) (ns + n) (pc + 3) (gR cs.length :: st) (cs ++ [.inr (.inr (kd, List.replicate n none))])) : kJ X lv n0 nc ns pc (gI i :: st) cs := by
  intro al H locs ls ha hP hD hS hl
  have hAO : va_AO C (gXs X) := by
    rcases hk with ⟨-, rfl⟩ | ⟨-, rfl⟩
    · exact h.2.2.2.1
    · exact h.2.2.2.2.1
  refine va_newq h.1.x h.1.b h.1.o (h.1.t _ hw) hAO h.1.k hP hD hS h.2.1 hi hn (by omega) hc1 hc2 hd (fun q cA H1 hK1 hP1 hD1 hS1 => ?_)
  have hdA : cA = gXdA X kd := by
    have z1 := (hK1.2 7 (cA, .object C) rfl).2
    obtain ⟨-, -, -, -, -, z1⟩ := z1
    rcases hk with ⟨rfl, rfl⟩ | ⟨rfl, rfl⟩
    · obtain ⟨-, -, -, -, -, z2⟩ := (h.1.k.2 4 _ (gtys_at (gXdA X) (by omega))).2
      exact Option.some.inj (z1.symm.trans z2)
    · obtain ⟨-, -, -, -, -, z2⟩ := (h.1.k.2 5 _ (gtys_at (gXdA X) (by omega))).2
      exact Option.some.inj (z1.symm.trans z2)
  subst hdA
  have wf : cwf cs.length (.inr (.inr (kd, List.replicate n none))) = true := by
    simp only [cwf, List.all_eq_true]
    intro o ho
    rw [List.eq_of_mem_replicate ho]
    rfl
  have e : kW (kUp al cs.length q) (gXdA X) 0 (cs ++ [.inr (.inr (kd, List.replicate n none))]) = kW al (gXdA X) 0 cs ++ [(q, kcell al (gXdA X) (.inr (.inr (kd, List.replicate n none))))] := kW_push wc wf
  have e2 : kcell al (gXdA X) (.inr (.inr (kd, List.replicate n none))) = .inl (gXdA X kd, n, .inr (.inr (.inr (.inr (fun _ => none))))) := by
    simp only [kcell, List.length_replicate]
    refine congrArg (fun f : Nat → Option Nat => (Sum.inl (gXdA X kd, n, .inr (.inr (.inr (.inr f)))) : va_E)) (funext fun j => ?_)
    by_cases hj : j < n <;> simp [List.getD, hj]
  rw [← e2, ← e] at hP1 hD1
  have hag : ∀ j, j < cs.length → kUp al cs.length q j = al j := fun j hj => kUp_lt hj
  have := k (kUp al cs.length q) H1 locs ls (fun j hj => by rw [hag j (by omega)]; exact ha j hj) hP1 hD1 hS1 (by rw [klv_agree hag wl]; exact hl)
  rw [List.map_cons, gcs_agree hag ws, show gc (kUp al cs.length q) (gR cs.length) = Value.ref q from congrArg Value.ref kUp_s] at this
  exact this
theorem kW_mem {al : Nat → Nat} {dA : Nat → ClassId} {q : Nat} {c : kC} (hq : cs[q]? = some c) : (kW al dA 0 cs)[q]? = some (al q, kcell al dA c) := by
  rw [kW_at, hq, Nat.zero_add]
  rfl
/-- a field's value goes with its type -/
def kFit (desc : String) (v : gV) : Bool := match parseFieldDescriptor desc, v with
  | some .int, .inl (.inl _) => true
  | some (.object _), .inr (some _) => true
  | some (.array _), .inr (some _) => true
  | _, _ => false
theorem kFit_ok {desc : String} {v : gV} (h : kFit desc v = true) (al : Nat → Nat) : ∃ ty, parseFieldDescriptor desc = some ty ∧ narrow ty (gc al v) = gc al v ∧ fits ty (gc al v) = true := by
  unfold kFit at h
  split at h
  · rename_i x e
    exact ⟨_, e, rfl, rfl⟩
  · rename_i x e
    exact ⟨_, e, rfl, rfl⟩
  · rename_i x e
    exact ⟨_, e, rfl, rfl⟩
  · cases h
theorem k_putfield (h : kOK X) (hin : (gXh X).name = "<init>") {ci q f idx N : Nat} {C : String} {T : u_T} {fs : List gV} {v : gV} (hc : gcls ci C T N) (hf : f < N) (hq : cs[q]? = some (.inl (ci, fs))) (hl0 : f < fs.length) (hw : Jvm.Cond.fieldLink (gXo X) idx C (T f).2.1 (T f).2.2.1 ∈ TW) (ho : gXo X = C) (hv : kFit (T f).2.2.1 v = true)
    (hd : decode (gXy X) pc = .ok (.putfield idx, 3)) (k : kJ X lv n0 nc ns (pc + 3) st (cs.set q (.inl (ci, fs.set f v)))) : kJ X lv n0 nc ns pc (v :: gR q :: st) cs := by
  intro al H locs ls ha hP hD hS hl
  obtain ⟨ty0, hty0⟩ := hc.2.2.2.2
  obtain ⟨ty, t1, t2, t3⟩ := kFit_ok hv al
  have e : (kW al (gXdA X) 0 cs).set q (al q, .inr (ci, (fs.map (gc al)).set f (gc al v))) = kW al (gXdA X) 0 (cs.set q (.inl (ci, fs.set f v))) := by
    rw [kW_set, Nat.zero_add, ← List.map_set]
    rfl
  have go : ∀ (H1 : Heap) (locs1 : List Loc), va_P (gXdC X, gXdI X) vwCl ((kW al (gXdA X) 0 cs).set q (al q, .inr (ci, (fs.map (gc al)).set f (gc al v)))) H1 → va_D (gXA X) ((kW al (gXdA X) 0 cs).set q (al q, .inr (ci, (fs.map (gc al)).set f (gc al v)))) → va_S (gXA X) (gXs X).heap H1 locs1 → W (gXp X) (gXl X) (gXe X) (gXR X) (gXs X) (gXm X) (gXa X) (gXb X) (gXh X) (gXc X) H1 locs1 nc ns (gXQ X) (F0 (gXm X) (pc + 3) ls (st.map (gc al))) := fun H1 locs1 hP1 hD1 hS1 => by
    rw [e] at hP1 hD1
    exact k al H1 locs1 ls ha hP1 hD1 hS1 hl
  cases hfin : (T f).2.2.2 with
  | false => exact va_put (ref := C) h.1.x h.1.b h.1.t hc.2.1 ty0 hty0 hc.2.2.2.1 h.1.o h.1.k hP hD hS q (kW_mem hq) hc.1 f hf (h.1.t _ hw) (fun x z => by rw [hc.2.2.1 f hf] at z; exact z) hfin t1 t2 t3 (by rw [List.length_map]; exact hl0) hd go
  | true => exact va_putF (ref := C) h.1.x h.1.b h.1.t hc.2.1 ty0 hty0 hc.2.2.2.1 h.1.o h.1.k hP hD hS q (kW_mem hq) hc.1 f hf (h.1.t _ hw) (fun x z => by rw [hc.2.2.1 f hf] at z; exact z) hfin hin ((hc.2.2.1 f hf).trans ho.symm) t1 t2 t3 (by rw [List.length_map]; exact hl0) hd go
theorem k_aastore (h : kOK X) {kd q v ci : Nat} {C : String} {T : u_T} {N : Nat} {fs : List gV} {ids : List (Option Nat)} {i : Int32} (hk : kd = 4 ∧ C = "TwinVoice$Valley" ∨ kd = 5 ∧ C = "TwinVoice$Slot") (hq : cs[q]? = some (.inr (.inr (kd, ids)))) (hv : cs[v]? = some (.inl (ci, fs))) (hc : vwCl[ci]? = some (C, T, N)) (hi : vp_in i ids.length)
    (hd : decode (gXy X) pc = .ok (.aastore, 1)) (k : kJ X lv n0 nc ns (pc + 1) st (cs.set q (.inr (.inr (kd, ids.set i.toNatClampNeg (some v)))))) : kJ X lv n0 nc ns pc (gR v :: gI i :: gR q :: st) cs := by
  intro al H locs ls ha hP hD hS hl
  have ht : (gtys (gXdA X))[kd]? = some (gXdA X kd, .object C) := by
    rcases hk with ⟨rfl, rfl⟩ | ⟨rfl, rfl⟩ <;> rfl
  have hlt : i.toNatClampNeg < ids.length := Nat.not_le.mp fun z => hi (Or.inr z)
  refine va_astq h.1.x h.1.b h.1.k hP hD hS q kd v ci (kW_mem hq) ht (kW_mem hv) hc hi hd (fun H1 locs1 hP1 hD1 hS1 => ?_)
  have e : (kW al (gXdA X) 0 cs).set q (al q, .inl (gXdA X kd, ids.length, .inr (.inr (.inr (.inr (va_up (fun j => (ids.getD j none).map al) i.toNatClampNeg (some (al v)))))))) = kW al (gXdA X) 0 (cs.set q (.inr (.inr (kd, ids.set i.toNatClampNeg (some v))))) := by
    rw [kW_set, Nat.zero_add]
    simp only [kcell, List.length_set]
    refine congrArg (fun f : Nat → Option Nat => (kW al (gXdA X) 0 cs).set q (al q, (Sum.inl (gXdA X kd, ids.length, .inr (.inr (.inr (.inr f)))) : va_E))) (funext fun j => ?_)
    unfold va_up
    by_cases hj : j = i.toNatClampNeg
    · subst hj
      simp [List.getD, hlt]
    · rw [if_neg hj]
      simp [List.getD, List.getElem?_set, Ne.symm hj]
  rw [e] at hP1 hD1
  exact k al H1 locs1 ls ha hP1 hD1 hS1 hl
theorem k_iastore (h : kOK X) {q : Nat} {xs : List Int} {i x : Int32} (hq : cs[q]? = some (.inr (.inl (0, xs)))) (hi : vp_in i xs.length)
    (hd : decode (gXy X) pc = .ok (.iastore, 1)) (k : kJ X lv n0 nc ns (pc + 1) st (cs.set q (.inr (.inl (0, xs.set i.toNatClampNeg x.toInt))))) : kJ X lv n0 nc ns pc (gI x :: gI i :: gR q :: st) cs := by
  intro al H locs ls ha hP hD hS hl
  have hlt : i.toNatClampNeg < xs.length := Nat.not_le.mp fun z => hi (Or.inr z)
  refine va_iast h.1.x h.1.b h.1.k hP hD hS q 0 (kW_mem hq) (gtys_at (gXdA X) (by omega)) hi hd (fun H1 locs1 hP1 hD1 hS1 => ?_)
  have e : (kW al (gXdA X) 0 cs).set q (al q, .inl (gXdA X 0, xs.length, .inl (upd (fun j => Int32.ofInt (xs.getD j 0)) i.toNatClampNeg x))) = kW al (gXdA X) 0 (cs.set q (.inr (.inl (0, xs.set i.toNatClampNeg x.toInt)))) := by
    rw [kW_set, Nat.zero_add]
    simp only [kcell, List.length_set]
    refine congrArg (fun f : Nat → Int32 => (kW al (gXdA X) 0 cs).set q (al q, (Sum.inl (gXdA X 0, xs.length, .inl f) : va_E))) (funext fun j => ?_)
    unfold upd
    by_cases hj : j = i.toNatClampNeg
    · subst hj
      simp [List.getD, hlt]
    · rw [if_neg hj]
      simp [List.getD, List.getElem?_set, Ne.symm hj]
  rw [e] at hP1 hD1
  exact k al H1 locs1 ls ha hP1 hD1 hS1 hl
theorem k_objInit (h : kOK X) {q idx : Nat} (hw1 : Jvm.Cond.methodLink (gXo X) idx objectInit ∈ TW) (hw2 : Jvm.Cond.instanceMethod objectInit ∈ TW) (hw3 : Jvm.Cond.code objectInit ⟨#[0xb1]⟩ 1 none ∈ TW) (hr1 : 1 ≤ (gXR X).frames) (hr2 : 20 ≤ (gXR X).locals) (hs : (st.map gcat).sum ≤ 8)
    (hd : decode (gXy X) pc = .ok (.invokespecial idx, 3)) (k : kJ X lv n0 nc ns (pc + 3) st cs) : kJ X lv n0 nc ns pc (gR q :: st) cs := by
  intro al H locs ls ha hP hD hS hl
  refine W.objInit h.1.x h.1.b h.1.o (h.1.t _ hw1) (h.1.t _ hw2) (h.1.t _ hw3) rfl (by rw [h.1.n]; exact hl.1) rfl hd hr1 ?_ ?_
  · have e : ((st.map (gc al)).map fun v => v.category) = st.map gcat := by
      rw [List.map_map]
      exact List.map_congr_left (fun v _ => gc_cat _ v)
    rw [e]
    show 2 * 0 + (st.map gcat).sum + 12 ≤ _
    omega
  · exact k al H locs ls ha hP hD hS hl
end KROWS2
