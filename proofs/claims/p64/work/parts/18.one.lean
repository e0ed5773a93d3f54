/-! THE ENGINE IS SOUND: one step -/
def eLen : Instr → Nat
  | .iconst _ => 1
  | .bipush _ => 2
  | .sipush _ => 3
  | .lconst _ => 1
  | .aconst_null => 1
  | .ldc _ => 2
  | .ldc_w _ => 3
  | .ldc2_w _ => 3
  | .iload_n _ => 1
  | .iload _ => 2
  | .lload_n _ => 1
  | .lload _ => 2
  | .aload_n _ => 1
  | .aload _ => 2
  | .istore_n _ => 1
  | .istore _ => 2
  | .lstore_n _ => 1
  | .lstore _ => 2
  | .astore_n _ => 1
  | .astore _ => 2
  | .iinc _ _ => 3
  | .iadd => 1
  | .isub => 1
  | .imul => 1
  | .ineg => 1
  | .iand => 1
  | .ior => 1
  | .ixor => 1
  | .ishl => 1
  | .ishr => 1
  | .iushr => 1
  | .idiv => 1
  | .irem => 1
  | .i2l => 1
  | .l2i => 1
  | .i2b => 1
  | .i2s => 1
  | .ladd => 1
  | .lmul => 1
  | .land => 1
  | .lor => 1
  | .lshl => 1
  | .lshr => 1
  | .ldiv => 1
  | .lrem => 1
  | .lcmp => 1
  | .dup => 1
  | .dup2 => 1
  | .pop => 1
  | .iaload => 1
  | .baload => 1
  | .laload => 1
  | .iastore => 1
  | .bastore => 1
  | .lastore => 1
  | .arraylength => 1
  | .aaload => 1
  | .goto _ => 3
  | .ifCond _ _ => 3
  | .if_icmp _ _ => 3
  | .ifnull _ => 3
  | .ifnonnull _ => 3
  | .getfield _ => 3
  | .putfield _ => 3
  | .invokevirtual _ => 3
  | .invokestatic _ => 3
  | _ => 0
def eRoom (n : Nat) : Instr → Bool
  | .istore_n i => Nat.blt (i : Nat) n
  | .istore i => Nat.blt i n
  | .lstore_n i => Nat.blt ((i : Nat) + 1) n
  | .lstore i => Nat.blt (i + 1) n
  | .astore_n i => Nat.blt (i : Nat) n
  | .astore i => Nat.blt i n
  | .iinc i k => Nat.blt i n && (decide (-32768 ≤ k) && decide (k ≤ 32767))
  | _ => true
/-- an instruction of the code has its length, and its local is there -/
def eFit (n : Nat) (q : Instr × Nat) : Bool := (Nat.beq (eLen q.1) 0 || Nat.beq (eLen q.1) q.2) && eRoom n q.1
theorem eFit_len {n : Nat} {ins : Instr} {len : Nat} (h : eFit n (ins, len) = true) (h0 : eLen ins ≠ 0) : len = eLen ins := by
  simp only [eFit, Bool.and_eq_true, Bool.or_eq_true, Nat.beq_eq] at h
  omega
theorem eFit_room {n : Nat} {ins : Instr} {len : Nat} (h : eFit n (ins, len) = true) : eRoom n ins = true := by
  simp only [eFit, Bool.and_eq_true] at h
  exact h.2
/-- all that a method's tables say of its frame -/
def sEnv (X : gX) (E : sE) (F : Nat → Int → gM → Int) (code : sCode) : Prop :=
  sEnvG X E ∧ sEnvF E F ∧ sEnvK X E ∧ sEnvL E ∧ sCodeOK X code ∧ (∀ p q, cAt code p = some q → eFit (gXn X) q = true)
theorem sStep1_ok {X : gX} {E : sE} {F : Nat → Int → gM → Int} {n0 : Nat} {r0 : Nat → Int} {code : sCode} {S : sS} {L : List sS} (h : gOK X) (hE : sEnv X E F code) {ins : Instr} {len : Nat} (hc : cAt code S.pc = some (ins, len)) (e : sStep1 E code S ins len = some L) (hW : ∀ T ∈ L, sW X E.P F n0 r0 T) : sW X E.P F n0 r0 S := by
  obtain ⟨hG, hF, hK, hL, hC, hfit0⟩ := hE
  have hfit := hfit0 _ _ hc
  have hd := hC _ _ hc
  have hrm := eFit_room hfit
  cases ins with
  | iconst k =>
    have q : len = 1 := eFit_len hfit (by intro z; cases z)
    subst q
    exact e_iconst h hd e hW
  | bipush k =>
    have q : len = 2 := eFit_len hfit (by intro z; cases z)
    subst q
    exact e_bipush h hd e hW
  | sipush k =>
    have q : len = 3 := eFit_len hfit (by intro z; cases z)
    subst q
    exact e_sipush h hd e hW
  | lconst k =>
    have q : len = 1 := eFit_len hfit (by intro z; cases z)
    subst q
    exact e_lconst h hd e hW
  | aconst_null =>
    have q : len = 1 := eFit_len hfit (by intro z; cases z)
    subst q
    exact e_null h hd e hW
  | ldc i =>
    have q : len = 2 := eFit_len hfit (by intro z; cases z)
    subst q
    exact e_ldc h hK hd e hW
  | ldc_w i =>
    have q : len = 3 := eFit_len hfit (by intro z; cases z)
    subst q
    exact e_ldcw h hK hd e hW
  | ldc2_w i =>
    have q : len = 3 := eFit_len hfit (by intro z; cases z)
    subst q
    exact e_ldc2 h hK hd e hW
  | iload_n i =>
    have q : len = 1 := eFit_len hfit (by intro z; cases z)
    subst q
    exact e_iload_n h hd e hW
  | iload i =>
    have q : len = 2 := eFit_len hfit (by intro z; cases z)
    subst q
    exact e_iload h hd e hW
  | lload_n i =>
    have q : len = 1 := eFit_len hfit (by intro z; cases z)
    subst q
    exact e_lload_n h hd e hW
  | lload i =>
    have q : len = 2 := eFit_len hfit (by intro z; cases z)
    subst q
    exact e_lload h hd e hW
  | aload_n i =>
    have q : len = 1 := eFit_len hfit (by intro z; cases z)
    subst q
    exact e_aload_n h hd e hW
  | aload i =>
    have q : len = 2 := eFit_len hfit (by intro z; cases z)
    subst q
    exact e_aload h hd e hW
  | istore_n i =>
    have q : len = 1 := eFit_len hfit (by intro z; cases z)
    subst q
    exact e_istore_n h (Nat.blt_eq.mp hrm) hd e hW
  | istore i =>
    have q : len = 2 := eFit_len hfit (by intro z; cases z)
    subst q
    exact e_istore h (Nat.blt_eq.mp hrm) hd e hW
  | lstore_n i =>
    have q : len = 1 := eFit_len hfit (by intro z; cases z)
    subst q
    exact e_lstore_n h (Nat.blt_eq.mp hrm) hd e hW
  | lstore i =>
    have q : len = 2 := eFit_len hfit (by intro z; cases z)
    subst q
    exact e_lstore h (Nat.blt_eq.mp hrm) hd e hW
  | astore_n i =>
    have q : len = 1 := eFit_len hfit (by intro z; cases z)
    subst q
    exact e_astore_n h (Nat.blt_eq.mp hrm) hd e hW
  | astore i =>
    have q : len = 2 := eFit_len hfit (by intro z; cases z)
    subst q
    exact e_astore h (Nat.blt_eq.mp hrm) hd e hW
  | iinc i k =>
    have q : len = 3 := eFit_len hfit (by intro z; cases z)
    subst q
    simp only [eRoom, Bool.and_eq_true, Nat.blt_eq, decide_eq_true_eq] at hrm
    exact e_iinc h hrm.1 hrm.2 hd e hW
  | iadd =>
    have q : len = 1 := eFit_len hfit (by intro z; cases z)
    subst q
    exact e_iadd h hd e hW
  | isub =>
    have q : len = 1 := eFit_len hfit (by intro z; cases z)
    subst q
    exact e_isub h hd e hW
  | imul =>
    have q : len = 1 := eFit_len hfit (by intro z; cases z)
    subst q
    exact e_imul h hd e hW
  | ineg =>
    have q : len = 1 := eFit_len hfit (by intro z; cases z)
    subst q
    exact e_ineg h hd e hW
  | iand =>
    have q : len = 1 := eFit_len hfit (by intro z; cases z)
    subst q
    exact e_iand h hd e hW
  | ior =>
    have q : len = 1 := eFit_len hfit (by intro z; cases z)
    subst q
    exact e_ior h hd e hW
  | ixor =>
    have q : len = 1 := eFit_len hfit (by intro z; cases z)
    subst q
    exact e_ixor h hd e hW
  | ishl =>
    have q : len = 1 := eFit_len hfit (by intro z; cases z)
    subst q
    exact e_ishl h hd e hW
  | ishr =>
    have q : len = 1 := eFit_len hfit (by intro z; cases z)
    subst q
    exact e_ishr h hd e hW
  | iushr =>
    have q : len = 1 := eFit_len hfit (by intro z; cases z)
    subst q
    exact e_iushr h hd e hW
  | idiv =>
    have q : len = 1 := eFit_len hfit (by intro z; cases z)
    subst q
    exact e_idiv h hd e hW
  | irem =>
    have q : len = 1 := eFit_len hfit (by intro z; cases z)
    subst q
    exact e_irem h hd e hW
  | i2l =>
    have q : len = 1 := eFit_len hfit (by intro z; cases z)
    subst q
    exact e_i2l h hd e hW
  | l2i =>
    have q : len = 1 := eFit_len hfit (by intro z; cases z)
    subst q
    exact e_l2i h hd e hW
  | i2b =>
    have q : len = 1 := eFit_len hfit (by intro z; cases z)
    subst q
    exact e_i2b h hd e hW
  | i2s =>
    have q : len = 1 := eFit_len hfit (by intro z; cases z)
    subst q
    exact e_i2s h hd e hW
  | ladd =>
    have q : len = 1 := eFit_len hfit (by intro z; cases z)
    subst q
    exact e_ladd h hd e hW
  | lmul =>
    have q : len = 1 := eFit_len hfit (by intro z; cases z)
    subst q
    exact e_lmul h hd e hW
  | land =>
    have q : len = 1 := eFit_len hfit (by intro z; cases z)
    subst q
    exact e_land h hd e hW
  | lor =>
    have q : len = 1 := eFit_len hfit (by intro z; cases z)
    subst q
    exact e_lor h hd e hW
  | lshl =>
    have q : len = 1 := eFit_len hfit (by intro z; cases z)
    subst q
    exact e_lshl h hd e hW
  | lshr =>
    have q : len = 1 := eFit_len hfit (by intro z; cases z)
    subst q
    exact e_lshr h hd e hW
  | ldiv =>
    have q : len = 1 := eFit_len hfit (by intro z; cases z)
    subst q
    exact e_ldiv h hd e hW
  | lrem =>
    have q : len = 1 := eFit_len hfit (by intro z; cases z)
    subst q
    exact e_lrem h hd e hW
  | lcmp =>
    have q : len = 1 := eFit_len hfit (by intro z; cases z)
    subst q
    exact e_lcmp h hC hd e hW
  | dup =>
    have q : len = 1 := eFit_len hfit (by intro z; cases z)
    subst q
    exact e_dup h hd e hW
  | dup2 =>
    have q : len = 1 := eFit_len hfit (by intro z; cases z)
    subst q
    exact e_dup2 h hd e hW
  | pop =>
    have q : len = 1 := eFit_len hfit (by intro z; cases z)
    subst q
    exact e_pop h hd e hW
  | iaload =>
    have q : len = 1 := eFit_len hfit (by intro z; cases z)
    subst q
    exact e_iaload h hG hL hd e hW
  | baload =>
    have q : len = 1 := eFit_len hfit (by intro z; cases z)
    subst q
    exact e_baload h hG hL hd e hW
  | laload =>
    have q : len = 1 := eFit_len hfit (by intro z; cases z)
    subst q
    exact e_laload h hG hL hd e hW
  | iastore =>
    have q : len = 1 := eFit_len hfit (by intro z; cases z)
    subst q
    exact e_iastore h hG hF hL hd e hW
  | bastore =>
    have q : len = 1 := eFit_len hfit (by intro z; cases z)
    subst q
    exact e_bastore h hG hF hL hd e hW
  | lastore =>
    have q : len = 1 := eFit_len hfit (by intro z; cases z)
    subst q
    exact e_lastore h hG hF hL hd e hW
  | arraylength =>
    have q : len = 1 := eFit_len hfit (by intro z; cases z)
    subst q
    exact e_arraylength h hG hd e hW
  | aaload =>
    have q : len = 1 := eFit_len hfit (by intro z; cases z)
    subst q
    exact e_aaload h hG hL hd e hW
  | goto off =>
    have q : len = 3 := eFit_len hfit (by intro z; cases z)
    subst q
    exact e_goto h hd e hW
  | ifCond cd off =>
    have q : len = 3 := eFit_len hfit (by intro z; cases z)
    subst q
    exact e_if h hd e hW
  | if_icmp cd off =>
    have q : len = 3 := eFit_len hfit (by intro z; cases z)
    subst q
    exact e_icmp h hd e hW
  | ifnull off =>
    have q : len = 3 := eFit_len hfit (by intro z; cases z)
    subst q
    exact e_ifnull h hd e hW
  | ifnonnull off =>
    have q : len = 3 := eFit_len hfit (by intro z; cases z)
    subst q
    exact e_ifnonnull h hd e hW
  | getfield i =>
    have q : len = 3 := eFit_len hfit (by intro z; cases z)
    subst q
    exact e_getfield h hG hK hd e hW
  | putfield i =>
    have q : len = 3 := eFit_len hfit (by intro z; cases z)
    subst q
    exact e_putfield h hG hF hK hd e hW
  | tableswitch dflt lo hi offs => exact e_table h hd e hW
  | _ => cases e
