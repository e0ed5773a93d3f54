/-! CONSTRUCTORS: whole runs -/
section KRUN
variable {T : List kMe}
theorem kRun_ok {X : gX} {k0 n0 : Nat} {po : kPo} {C : sCode} {l : Launch} {d mc ms : Nat} {y : MethodName} {cb : ByteArray} {cs' : List kC} {call : Nat → Nat → List kC → Option (List kC)} (hI : kIn X l d y cb mc ms n0 cs') (hpo : ∀ q ∈ po, poOK (gXo X) T q = true) (hgl : ∀ kd, kd < 4 → Jvm.Cond.arrayClass (gty kd) ∈ TW) (hC : ∀ p q, cAt C p = some q → decode (gXy X) p = .ok q)
    (hcall : ∀ mi q cs cs' e, call mi q cs = some cs' → T[mi]? = some e → ∃ d', kMet (gXl X) d' e.1 e.2.1 e.2.2.2.2.1 e.2.2.2.2.2 q cs cs' ∧ (krm d' e.2.2.2.2.1 e.2.2.2.2.2).frames + 1 ≤ (gXR X).frames ∧ 8 + (1 + 11) + (krm d' e.2.2.2.2.1 e.2.2.2.2.2).locals ≤ (gXR X).locals) :
    ∀ (n : Nat) (S : kS), kRun T call po C n0 k0 mc ms n S = some cs' → kJS X k0 n0 S
  | 0, _, e => by cases e
  | n + 1, S, e => by
    have hR : gXR X = krm d mc ms := hI.2.2.1
    simp only [kRun] at e
    split at e
    · cases e
    · rename_i ec
      obtain ⟨pc, st0, cs, nc, ns⟩ := S
      split at e
      · rename_i es
        have es : st0 = [] := es
        subst es
        split at e
        · rename_i c
          simp only [Bool.and_eq_true, Nat.ble_eq] at c
          cases e
          exact k_ret hI c.1 c.2 (hC _ _ ec)
        · cases e
      · cases e
    · rename_i q hne ec
      split at e
      · cases e
      · rename_i S' eS
        exact kStep_ok hI.1 hI.2.2.2.2.2.2.1 hpo hgl (by rw [hR]; exact Nat.le_refl _) (by rw [hR]; exact Nat.le_refl _) (by rw [hR]; simp only [krm]; omega) (by rw [hR]; simp only [krm]; omega) hcall (hC _ _ ec) eS (kRun_ok hI hpo hgl hC hcall n S' e)
def chkD (cb : ByteArray) (C : sCode) : Bool := C.all (fun b => b.2.all (fun e => isOk (decode cb e.1) e.2))
theorem chkD_ok {cb : ByteArray} {C : sCode} (h : chkD cb C = true) (p : Nat) (q : Instr × Nat) (e : cAt C p = some q) : decode cb p = .ok q := by
  obtain ⟨b, b1, b2⟩ := cAt_mem C p q e
  exact isOk_ok (List.all_eq_true.mp (List.all_eq_true.mp h b b1) (p, q) b2)
def chkMe (T : List kMe) (e : kMe) : Bool := plainName e.1.cls && (decide (e.1.name = "<init>") && (chkD e.2.1 e.2.2.1 && e.2.2.2.1.all (poOK e.1.cls T)))
theorem kM_ok (hT : T.all (chkMe T) = true) (hgl : ∀ kd, kd < 4 → Jvm.Cond.arrayClass (gty kd) ∈ TW) (l : Launch) : ∀ (d mi k0 : Nat) (cs cs' : List kC) (e : kMe), kM T d mi k0 cs = some cs' → T[mi]? = some e → kMet l d e.1 e.2.1 e.2.2.2.2.1 e.2.2.2.2.2 k0 cs cs'
  | 0, _, _, _, _, _, h, _ => by cases h
  | d + 1, mi, k0, cs, cs', e, h, he => by
    simp only [kM, he] at h
    have hc := List.all_eq_true.mp hT e (List.mem_of_getElem? he)
    simp only [chkMe, Bool.and_eq_true, decide_eq_true_eq] at hc
    obtain ⟨h1, h2, h3, h4⟩ := hc
    refine kMet.of h1 h2 (fun X hI => ?_)
    have hl : gXl X = l := hI.2.1
    have hR : gXR X = krm (d + 1) e.2.2.2.2.1 e.2.2.2.2.2 := hI.2.2.1
    have hy : gXy X = e.2.1 := hI.2.2.2.1
    have ho : gXo X = e.1.cls := hI.2.2.2.2.2.1
    refine kRun_ok hI (fun q hq => by rw [ho]; exact List.all_eq_true.mp h4 q hq) hgl (fun p q hq => by rw [hy]; exact chkD_ok h3 p q hq) (fun mi q cs cs' e2 hcl he2 => ⟨d, by rw [hl]; exact kM_ok hT hgl l d mi q cs cs' e2 hcl he2, ?_, ?_⟩) 400 _ h
    · rw [hR]; simp only [krm]; omega
    · rw [hR]; simp only [krm]; omega
end KRUN
