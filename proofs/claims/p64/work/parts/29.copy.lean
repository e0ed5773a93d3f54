/-! arraycopy of longs, at a call -/
theorem gputL {D : va_G} {cl : List vw_C} {al : Nat → Nat} {dA : Nat → ClassId} {G : List gC} {mu mu' : gM} {H1 : Heap} (hl : glay 0 G = true) {k b n : Nat} {f : Nat → Int64} (hk : G[k]? = some (.inr (.inl (3, b, n)))) (hP1 : va_P D cl ((gW al dA mu 0 G).set k (al k, .inl (dA 3, n, .inr (.inl f)))) H1) (hf : ∀ j, j < n → Int64.ofInt (mu' (b + j)) = f j) (ho : ∀ p, ¬ (b ≤ p ∧ p < b + n) → mu' p = mu p) : va_P D cl (gW al dA mu' 0 G) H1 := by
  intro j q hq
  rw [gW_at] at hq
  cases hj : G[j]? with
  | none => rw [hj] at hq; cases hq
  | some gj =>
    rw [hj] at hq
    simp only [Option.map_some, Option.some.injEq, Nat.zero_add] at hq
    subst hq
    by_cases hjk : j = k
    · subst hjk
      cases hj.symm.trans hk
      have h1 : va_at D cl (al j, .inl (dA 3, n, .inr (.inl f))) H1 := by
        refine hP1 j _ ?_
        rw [List.getElem?_set_self]
        rw [gW_len]
        exact (List.getElem?_eq_some_iff.mp hj).1
      rw [show gcell al dA mu' (.inr (.inl (3, b, n))) = .inl (dA 3, n, .inr (.inl (fun j => Int64.ofInt (mu' (b + j))))) from rfl]
      simp only [va_at, vp_cell] at h1 ⊢
      rw [h1, garr_eq (f' := fun j => Value.long (Int64.ofInt (mu' (b + j)))) (f := fun j => Value.long (f j)) (fun j h => by rw [hf j h])]
    · have h1 : va_at D cl (al j, gcell al dA mu gj) H1 := by
        refine hP1 j _ ?_
        rw [List.getElem?_set_ne (fun q => hjk q.symm), gW_at, hj]
        simp
      refine gat_up (fun p' hp' => ho p' (fun z => ?_)) h1
      exact hjk (glay_one G 0 hl j k gj _ p' hj hk hp' (by simp only [gown, Bool.and_eq_true, Nat.ble_eq, Nat.blt_eq]; exact z))
theorem g_copy {X : gX} {E : sE} {F : Nat → Int → gM → Int} (h : gOK X) (hG : sEnvG X E) {adV : Nat → Nat} {d idx : Nat} (hrm : gRm X d) (hd1 : 0 < d) (hl1 : Cond.methodLink (gXo X) idx arraycopyName ∈ TW) (hl2 : Cond.native arraycopyName ∈ TW) (hl3 : Cond.static arraycopyName ∈ TW) (hl4 : Cond.initialized "java/lang/System" ∈ TW) : sGivCopy X E.P F idx := by
  intro pc lv sv mu o dd a b m1 m2 i k n hd ho hdd hp hfull n0 k0 i0 q1 q2 hs kk H locs ls hR hl
  have tn : ∀ z : Int32, 0 ≤ z.toInt → ¬ z < 0 := fun z hz q => by
    rw [Int32.lt_iff_toInt_lt, Int32.toInt_zero] at q
    omega
  have ws1 : (gWX X mu)[o]? = some (gXal X o, .inl (gXdA X 3, m1, .inr (.inl (fun j => Int64.ofInt (mu (a + j)))))) := by
    rw [gWX_at ho mu]
    simp [gcell]
  have ws2 : (gWX X mu)[dd]? = some (gXal X dd, .inl (gXdA X 3, m2, .inr (.inl (fun j => Int64.ofInt (mu (b + j)))))) := by
    rw [gWX_at hdd mu]
    simp [gcell]
  have hroom : 1 ≤ (gXR X).frames ∧ 8 + (nativeFrameWords "java/lang/System" "arraycopy" 5 + 11) ≤ (gXR X).locals := by
    have e : nativeFrameWords "java/lang/System" "arraycopy" 5 ≤ 40 := by decide
    rcases hrm with z | ⟨z, hz⟩
    · rw [z]
      simp only [grm]
      omega
    · rw [z]
      simp only [room_1]
      omega
  refine va_copyl h.x h.b (by rw [h.n]; exact hl.1.symm) h.o (h.t _ hl1) (h.t _ hl2) (h.t _ hl3) (h.t _ hl4) h.k hR.1 (h.d mu) hR.2 o dd 3 3 ws1 ws2 (gtys_at _ (by decide)) (gtys_at _ (by decide)) rfl (tn i i0) (tn k k0) (tn n n0) ?_ ?_ (fun _ _ => rfl) hroom.1 ?_ hd (fun H1 locs1 hP1 hD1 hS1 => ?_)
  · show i.toInt.toNat + n.toInt.toNat ≤ m1
    omega
  · show k.toInt.toNat + n.toInt.toNat ≤ m2
    omega
  · have := g_sum X sv hs
    omega
  · let mu' : gM := fun p => if b ≤ p ∧ p < b + m2 then (va_cpy (fun j => Int64.ofInt (mu (a + j))) (fun j => Int64.ofInt (mu (b + j))) i.toNatClampNeg k.toNatClampNeg n.toNatClampNeg (p - b)).toInt else mu p
    refine kk mu' (fun p g hp' => ?_) (fun p hn => if_neg hn) H1 locs1 ls ⟨gputL hG.2.1 hdd hP1 (fun j hj => ?_) (fun p hn => if_neg hn), hS1⟩ hl
    · by_cases c : b ≤ p ∧ p < b + m2
      · have e : mu' p = _ := if_pos c
        rw [e]
        have w := hfull p g c.1 c.2 hp'
        generalize va_cpy (fun j => Int64.ofInt (mu (a + j))) (fun j => Int64.ofInt (mu (b + j))) i.toNatClampNeg k.toNatClampNeg n.toNatClampNeg (p - b) = z
        have z1 := i64_range z
        omega
      · have e : mu' p = mu p := if_neg c
        rw [e]
        exact hp p g hp'
    · have e : mu' (b + j) = _ := if_pos (by omega)
      rw [e, Int64.ofInt_toInt, show b + j - b = j by omega]
