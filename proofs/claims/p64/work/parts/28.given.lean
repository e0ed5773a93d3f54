/-! contracts kept are contracts given at calls -/
theorem retS_eq : ∀ (r : Option gV) (st : List gV), retS r st = r.toList ++ st
  | none, _ => rfl
  | some _, _ => rfl
/-- a method keeps a contract, and Qf of what comes back -/
def cMetQ (l : Launch) (d : Nat) (y : MethodName) (cb : ByteArray) (maxL : Nat) (ret : Option FieldType) (G : List gC) (P : sP) (F : Nat → Int → gM → Int) (M : Nat) (Qf : List gV → gM → Option gV → gM → Prop) (c : sC) : Prop :=
  ∀ (av : List gV) (mu : gM), gArgOK c.1 av → gProf P mu → (∀ h ∈ c.2.1, h.2.1 ≤ mu h.1 ∧ mu h.1 ≤ h.2.2) → gMet l d y cb maxL ret G av mu (fun rv mu' => cPost M P F c av mu rv mu' ∧ Qf av mu rv mu')
theorem argOK_ref {k : Nat} {gs : List sG} {av : List gV} (h : gArgOK (.inr (.inr (some k)) :: gs) av) : ∃ as, av = gR k :: as ∧ gs.length = as.length := by
  rcases av with _ | ⟨(v | v) | v, as⟩
  · cases h
  · cases h
  · cases h
  · have e : some k = v := h.1
    subst e
    exact ⟨as, rfl, argOK_len _ _ h.2⟩
section GIVEN
variable {X : gX} {adV : Nat → Nat} {d d' idx maxL n : Nat} {y : MethodName} {cb : ByteArray} {ret : Option FieldType} {P : sP} {F : Nat → Int → gM → Int} {M : Nat} {c : sC}
theorem giv_static (h : gOK X) (hOE : gOE X adV) (hrm : gRm X d) (hdd : d' < d) (hM : cMet (gXl X) d' y cb maxL ret (gXG X) P F M c) (hcw : gcw (gXo X) idx y cb maxL ret n) (hl1 : Cond.methodLink (gXo X) idx y ∈ TW) (hl2 : Cond.static y ∈ TW) (hn : c.1.length = n) : sGiv X P F M (.invokestatic idx) c := by
  intro pc lv av sv mu hd ha hp hpre hs kk
  exact g_invokestatic h hOE hrm hdd (hM av mu ha hp hpre) hcw hl1 hl2 (by rw [← argOK_len _ _ ha]; exact hn) hs hd (fun r mu' ⟨x, hx, hq⟩ => by have g := kk x hx r mu' hq; rw [retS_eq] at g; exact g)
theorem giv_virtual {k ci N : Nat} {fs : List gF} {T : u_T} {gs : List sG} (h : gOK X) (hOE : gOE X adV) (hrm : gRm X d) (hdd : d' < d) (hM : cMet (gXl X) d' y cb maxL ret (gXG X) P F M c) (hcw : gcw (gXo X) idx y cb maxL ret n) (hl1 : Cond.methodLink (gXo X) idx y ∈ TW) (hl2 : Cond.instanceMethod y ∈ TW) (hl3 : Cond.selects y.cls y y ∈ TW) (hc : c.1 = .inr (.inr (some k)) :: gs) (hk : (gXG X)[k]? = some (.inl (ci, fs))) (hci : vwCl[ci]? = some (y.cls, T, N)) (hn : gs.length = n) : sGiv X P F M (.invokevirtual idx) c := by
  intro pc lv av sv mu hd ha hp hpre hs kk
  have hM2 := hM av mu ha hp hpre
  have ha2 := ha
  rw [hc] at ha2
  obtain ⟨as, rfl, hlen⟩ := argOK_ref ha2
  have e : (gR k :: as).reverse ++ sv = as.reverse ++ gR k :: sv := by rw [List.reverse_cons, List.append_assoc]; rfl
  rw [e]
  exact g_invokevirtual h hOE hrm hdd hM2 hcw hl1 hl2 hl3 hk hci (by rw [← hlen]; exact hn) hs hd (fun r mu' ⟨x, hx, hq⟩ => by have g := kk x hx r mu' hq; rw [retS_eq] at g; exact g)
theorem giv_staticN {host : String} (h : gOK X) (hOE : gOE X adV) (hrm : gRm X d) (hdd : d' < d) (hM : cMet (gXl X) d' y cb maxL ret (gXG X) P F M c) (hcw : gcw (gXo X) idx y cb maxL ret n) (hl1 : Cond.methodLinkNest (gXo X) idx y host ∈ gNW) (hl2 : Cond.static y ∈ TW) (hn : c.1.length = n) : sGiv X P F M (.invokestatic idx) c := by
  intro pc lv av sv mu hd ha hp hpre hs kk
  exact g_invokestaticN h hOE hrm hdd (hM av mu ha hp hpre) hcw hl1 hl2 (by rw [← argOK_len _ _ ha]; exact hn) hs hd (fun r mu' ⟨x, hx, hq⟩ => by have g := kk x hx r mu' hq; rw [retS_eq] at g; exact g)
theorem giv_virtualN {host : String} {k ci N : Nat} {fs : List gF} {T : u_T} {gs : List sG} (h : gOK X) (hOE : gOE X adV) (hrm : gRm X d) (hdd : d' < d) (hM : cMet (gXl X) d' y cb maxL ret (gXG X) P F M c) (hcw : gcw (gXo X) idx y cb maxL ret n) (hl1 : Cond.methodLinkNest (gXo X) idx y host ∈ gNW) (hl2 : Cond.instanceMethod y ∈ TW) (hl3 : Cond.selects y.cls y y ∈ TW) (hc : c.1 = .inr (.inr (some k)) :: gs) (hk : (gXG X)[k]? = some (.inl (ci, fs))) (hci : vwCl[ci]? = some (y.cls, T, N)) (hn : gs.length = n) : sGiv X P F M (.invokevirtual idx) c := by
  intro pc lv av sv mu hd ha hp hpre hs kk
  have hM2 := hM av mu ha hp hpre
  have ha2 := ha
  rw [hc] at ha2
  obtain ⟨as, rfl, hlen⟩ := argOK_ref ha2
  have e : (gR k :: as).reverse ++ sv = as.reverse ++ gR k :: sv := by rw [List.reverse_cons, List.append_assoc]; rfl
  rw [e]
  exact g_invokevirtualN h hOE hrm hdd hM2 hcw hl1 hl2 hl3 hk hci (by rw [← hlen]; exact hn) hs hd (fun r mu' ⟨x, hx, hq⟩ => by have g := kk x hx r mu' hq; rw [retS_eq] at g; exact g)
theorem givQ_static {Qf : List gV → gM → Option gV → gM → Prop} (h : gOK X) (hOE : gOE X adV) (hrm : gRm X d) (hdd : d' < d) (hM : cMetQ (gXl X) d' y cb maxL ret (gXG X) P F M Qf c) (hcw : gcw (gXo X) idx y cb maxL ret n) (hl1 : Cond.methodLink (gXo X) idx y ∈ TW) (hl2 : Cond.static y ∈ TW) (hn : c.1.length = n) : sGivQ X P F M (.invokestatic idx) Qf c := by
  intro pc lv av sv mu hd ha hp hpre hs kk
  exact g_invokestatic h hOE hrm hdd (hM av mu ha hp hpre) hcw hl1 hl2 (by rw [← argOK_len _ _ ha]; exact hn) hs hd (fun r mu' ⟨⟨x, hx, hq⟩, hqf⟩ => by have g := kk x hx r mu' hq hqf; rw [retS_eq] at g; exact g)
theorem givQ_virtual {Qf : List gV → gM → Option gV → gM → Prop} {k ci N : Nat} {fs : List gF} {T : u_T} {gs : List sG} (h : gOK X) (hOE : gOE X adV) (hrm : gRm X d) (hdd : d' < d) (hM : cMetQ (gXl X) d' y cb maxL ret (gXG X) P F M Qf c) (hcw : gcw (gXo X) idx y cb maxL ret n) (hl1 : Cond.methodLink (gXo X) idx y ∈ TW) (hl2 : Cond.instanceMethod y ∈ TW) (hl3 : Cond.selects y.cls y y ∈ TW) (hc : c.1 = .inr (.inr (some k)) :: gs) (hk : (gXG X)[k]? = some (.inl (ci, fs))) (hci : vwCl[ci]? = some (y.cls, T, N)) (hn : gs.length = n) : sGivQ X P F M (.invokevirtual idx) Qf c := by
  intro pc lv av sv mu hd ha hp hpre hs kk
  have hM2 := hM av mu ha hp hpre
  have ha2 := ha
  rw [hc] at ha2
  obtain ⟨as, rfl, hlen⟩ := argOK_ref ha2
  have e : (gR k :: as).reverse ++ sv = as.reverse ++ gR k :: sv := by rw [List.reverse_cons, List.append_assoc]; rfl
  rw [e]
  exact g_invokevirtual h hOE hrm hdd hM2 hcw hl1 hl2 hl3 hk hci (by rw [← hlen]; exact hn) hs hd (fun r mu' ⟨⟨x, hx, hq⟩, hqf⟩ => by have g := kk x hx r mu' hq hqf; rw [retS_eq] at g; exact g)
theorem givQ_staticN {Qf : List gV → gM → Option gV → gM → Prop} {host : String} (h : gOK X) (hOE : gOE X adV) (hrm : gRm X d) (hdd : d' < d) (hM : cMetQ (gXl X) d' y cb maxL ret (gXG X) P F M Qf c) (hcw : gcw (gXo X) idx y cb maxL ret n) (hl1 : Cond.methodLinkNest (gXo X) idx y host ∈ gNW) (hl2 : Cond.static y ∈ TW) (hn : c.1.length = n) : sGivQ X P F M (.invokestatic idx) Qf c := by
  intro pc lv av sv mu hd ha hp hpre hs kk
  exact g_invokestaticN h hOE hrm hdd (hM av mu ha hp hpre) hcw hl1 hl2 (by rw [← argOK_len _ _ ha]; exact hn) hs hd (fun r mu' ⟨⟨x, hx, hq⟩, hqf⟩ => by have g := kk x hx r mu' hq hqf; rw [retS_eq] at g; exact g)
theorem givQ_virtualN {Qf : List gV → gM → Option gV → gM → Prop} {host : String} {k ci N : Nat} {fs : List gF} {T : u_T} {gs : List sG} (h : gOK X) (hOE : gOE X adV) (hrm : gRm X d) (hdd : d' < d) (hM : cMetQ (gXl X) d' y cb maxL ret (gXG X) P F M Qf c) (hcw : gcw (gXo X) idx y cb maxL ret n) (hl1 : Cond.methodLinkNest (gXo X) idx y host ∈ gNW) (hl2 : Cond.instanceMethod y ∈ TW) (hl3 : Cond.selects y.cls y y ∈ TW) (hc : c.1 = .inr (.inr (some k)) :: gs) (hk : (gXG X)[k]? = some (.inl (ci, fs))) (hci : vwCl[ci]? = some (y.cls, T, N)) (hn : gs.length = n) : sGivQ X P F M (.invokevirtual idx) Qf c := by
  intro pc lv av sv mu hd ha hp hpre hs kk
  have hM2 := hM av mu ha hp hpre
  have ha2 := ha
  rw [hc] at ha2
  obtain ⟨as, rfl, hlen⟩ := argOK_ref ha2
  have e : (gR k :: as).reverse ++ sv = as.reverse ++ gR k :: sv := by rw [List.reverse_cons, List.append_assoc]; rfl
  rw [e]
  exact g_invokevirtualN h hOE hrm hdd hM2 hcw hl1 hl2 hl3 hk hci (by rw [← hlen]; exact hn) hs hd (fun r mu' ⟨⟨x, hx, hq⟩, hqf⟩ => by have g := kk x hx r mu' hq hqf; rw [retS_eq] at g; exact g)
end GIVEN
