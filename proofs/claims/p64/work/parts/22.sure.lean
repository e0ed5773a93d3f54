/-! THE ENGINE IS SOUND: whole runs, over what a step says -/
theorem bindL_ok {f : sS → sR} : ∀ (L : List sS) (R : List sS), bindL f L = some R → ∀ S ∈ L, ∃ R', f S = some R' ∧ ∀ T ∈ R', T ∈ R
  | [], R, _, S, hS => absurd hS List.not_mem_nil
  | a :: t, R, e, S, hS => by
    simp only [bindL] at e
    cases c1 : f a with
    | none => rw [c1] at e; cases e
    | some x =>
      cases c2 : bindL f t with
      | none => rw [c1, c2] at e; cases e
      | some y =>
        rw [c1, c2] at e
        cases e
        rcases List.mem_cons.mp hS with rfl | hS
        · exact ⟨x, c1, fun T hT => List.mem_append_left _ hT⟩
        · obtain ⟨R', h1, h2⟩ := bindL_ok t y c2 S hS
          exact ⟨R', h1, fun T hT => List.mem_append_right _ (h2 T hT)⟩
theorem sHeads_ok {P : sP} {S : sS} : ∀ (Hs : List sH) (HS : sH × sS), sHeads P S Hs = some HS → sHead P HS.1 S = some HS.2
  | [], _, e => by cases e
  | H :: t, HS, e => by
    simp only [sHeads] at e
    cases c : sHead P H S with
    | some S1 =>
      rw [c] at e
      cases e
      exact c
    | none =>
      rw [c] at e
      exact sHeads_ok t HS e
theorem sSplit_mem {P : sP} {S T : sS} {l : sL} : ∀ (n : Nat) (lo : Int) (v : Int), lo ≤ v → v < lo + (n : Int) → sEq P S (sAdd l (sK (-v))) = some T → T ∈ sSplit P S l lo n
  | 0, lo, v, h1, h2, _ => by omega
  | n + 1, lo, v, h1, h2, e => by
    simp only [sSplit]
    by_cases c : lo = v
    · refine List.mem_append_left _ ?_
      rw [c, e]
      exact List.mem_cons_self
    · exact List.mem_append_right _ (sSplit_mem n (lo + 1) v (by omega) (by omega) e)
section RUNW
variable {X : gX} {F : Nat → Int → gM → Int}
theorem split_ok {P : sP} {S : sS} {i : Nat} {l : sL} {g : Int × Int} {n0 : Nat} {r0 : Nat → Int} (c1 : sLk S.lv i = some (.inl (.inl l))) (c2 : sB P S.iv l = some g) (hW : ∀ T ∈ sSplit P S l g.1 (g.2 - g.1 + 1).toNat, sW X P F n0 r0 T) : sW X P F n0 r0 S := by
  intro r lv sv mu hn hr hS
  obtain ⟨v, v1, v2, v3⟩ := gAtL_ok _ _ _ _ r (hS r (sAg.rf _ _)).1.1 c1
  rcases v with (x | x) | x
  · have hx : ∀ r', sAg S.nx r r' → x.toInt = sEv r' l := fun r' q => by
      obtain ⟨w, w1, -, w3⟩ := gAtL_ok _ _ _ _ r' (hS r' q).1.1 c1
      cases v1.symm.trans w1
      exact w3
    have b := sB_ok (hS r (sAg.rf _ _)).1.2.2.1.1 (hS r (sAg.rf _ _)).1.2.2.1.2.2 c2
    rw [← hx r (sAg.rf _ _)] at b
    exact W_is (l := l) (v := x.toInt) (fun T eT => hW T (sSplit_mem _ _ _ b.1 (by omega) eT)) hn hr hS hx
  · cases v3
  · cases v3
theorem sRun_ok {Y : sY1} (hStep : ∀ (S : sS) (ins : Instr) (len : Nat) (L : List sS) (n1 : Nat) (r1 : Nat → Int), cAt Y.C S.pc = some (ins, len) → sStep Y S ins len = some L → (∀ T ∈ L, sW X Y.E.P F n1 r1 T) → sW X Y.E.P F n1 r1 S) :
    ∀ (n : Nat) (stops : List Nat) (S : sS) (R : List sS) (n0 : Nat) (r0 : Nat → Int), sRun Y n stops S = some R → (∀ T ∈ R, sW X Y.E.P F n0 r0 T) → sW X Y.E.P F n0 r0 S
  | 0, _, _, _, _, _, e, _ => by cases e
  | n + 1, stops, S, R, n0, r0, e, hW => by
    simp only [sRun] at e
    split at e
    · cases e
      exact hW S List.mem_cons_self
    · split at e
      · cases e
      · rename_i q cq
        split at e
        · split at e
          · cases e
            exact hW S List.mem_cons_self
          · split at e
            · rename_i lg c
              split at c
              · cases c
              · rename_i i ci
                split at c
                · rename_i l cl
                  split at c
                  · rename_i g cg
                    split at c
                    · cases c
                      refine split_ok cl cg (fun T hT => ?_)
                      obtain ⟨R', h1, h2⟩ := bindL_ok _ _ e T hT
                      exact sRun_ok hStep n stops T R' n0 r0 h1 (fun U hU => hW U (h2 U hU))
                    · cases c
                  · cases c
                · cases c
            · split at e
              · cases e
              · rename_i L cL
                refine hStep S q.1 q.2 L n0 r0 cq cL (fun T hT => ?_)
                obtain ⟨R', h1, h2⟩ := bindL_ok _ _ e T hT
                exact sRun_ok hStep n stops T R' n0 r0 h1 (fun U hU => hW U (h2 U hU))
        · split at e
          · cases e
          · rename_i HS cH
            have eH := sHeads_ok _ _ cH
            have hs := head_same eH
            split at e
            · cases e
            · rename_i L cL
              split at e
              · cases e
              · rename_i R1 cR
                split at e
                · rename_i cb
                  cases e
                  refine loop_ok eH (fun n1 r1 h1 => ?_) cb hW
                  refine hStep HS.2 q.1 q.2 L n1 r1 (by rw [hs.2.1]; exact cq) cL (fun T hT => ?_)
                  obtain ⟨R', k1, k2⟩ := bindL_ok _ _ cR T hT
                  exact sRun_ok hStep n _ T R' n1 r1 k1 (fun U hU => h1 U (k2 U hU))
                · cases e
end RUNW
