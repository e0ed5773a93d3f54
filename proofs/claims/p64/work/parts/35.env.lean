/-! a frame of a method has the environment that the engine wants -/
theorem env_ok {X : gX} {adV : Nat → Nat} {l : Launch} {d : Nat} {y : MethodName} {cb : ByteArray} {maxL : Nat} {ret : Option FieldType} {G : List gC} {Post : Option gV → gM → Prop} (hI : gIn X adV l d y cb maxL ret G Post) {E : sE} {C : sCode} {F : Nat → Int → gM → Int} (h1 : chkG G E.G = true) (h2 : glay 0 G = true) (h3 : chkP E.P E.Q = true) (h4 : G.all (chkC E.P) = true) (hF : sEnvF E F) (hw : chkW y.cls E = true) (hk : chkK cb maxL C = true) : sEnv X E F C := by
  obtain ⟨hOK, hOE, -, -, hG, hy, hn, ho, -⟩ := hI
  have a := chk_envG (X := X) (E := E) (by rw [hG]; exact h1) (by rw [hG]; exact h2) h3 (by rw [hG]; exact h4)
  have k := chkK_ok (X := X) (C := C) (by rw [hy, hn]; exact hk)
  exact ⟨a.1, hF, chk_envK hOE gclAll (by rw [ho]; exact hw), a.2, k.1, k.2⟩
