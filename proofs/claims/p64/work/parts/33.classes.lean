/-! the classes of the graph: their words are there -/
theorem gcl0 : gcls 0 RX0 TX0 2 := ⟨rfl, by decide +kernel, by decide +kernel, nmX0, ⟨tyX0, tyX0_ok⟩⟩
theorem gcl1 : gcls 1 RX1 TX1 2 := ⟨rfl, by decide +kernel, by decide +kernel, nmX1, ⟨tyX1, tyX1_ok⟩⟩
theorem gcl2 : gcls 2 RX2 TX2 8 := ⟨rfl, by decide +kernel, by decide +kernel, nmX2, ⟨tyX2, tyX2_ok⟩⟩
theorem gcl3 : gcls 3 RX3 TX3 7 := ⟨rfl, by decide +kernel, by decide +kernel, nmX3, ⟨tyX3, tyX3_ok⟩⟩
theorem gcl4 : gcls 4 RX4 TX4 6 := ⟨rfl, by decide +kernel, by decide +kernel, nmX4, ⟨tyX4, tyX4_ok⟩⟩
theorem gcl5 : gcls 5 RX5 TX5 3 := ⟨rfl, by decide +kernel, by decide +kernel, nmX5, ⟨tyX5, tyX5_ok⟩⟩
theorem gcl6 : gcls 6 RX6 TX6 4 := ⟨rfl, by decide +kernel, by decide +kernel, nmX6, ⟨tyX6, tyX6_ok⟩⟩
theorem gcl7 : gcls 7 RX7 TX7 3 := ⟨rfl, by decide +kernel, by decide +kernel, nmX7, ⟨tyX7, tyX7_ok⟩⟩
theorem gcl8 : gcls 8 RX8 TX8 6 := ⟨rfl, by decide +kernel, by decide +kernel, nmX8, ⟨tyX8, tyX8_ok⟩⟩
theorem gcl9 : gcls 9 RX9 TX9 5 := ⟨rfl, by decide +kernel, by decide +kernel, nmX9, ⟨tyX9, tyX9_ok⟩⟩
theorem gcl10 : gcls 10 RX10 TX10 12 := ⟨rfl, by decide +kernel, by decide +kernel, nmX10, ⟨tyX10, tyX10_ok⟩⟩
theorem gcl11 : gcls 11 RX11 TX11 14 := ⟨rfl, by decide +kernel, by decide +kernel, nmX11, ⟨tyX11, tyX11_ok⟩⟩
theorem gcl12 : gcls 12 RX12 TX12 36 := ⟨rfl, by decide +kernel, by decide +kernel, nmX12, ⟨tyX12, tyX12_ok⟩⟩
theorem gclAll : ∀ (ci : Nat) (C : String) (T : u_T) (N : Nat), vwCl[ci]? = some (C, T, N) → gcls ci C T N := by
  intro ci C T N h
  match ci with
  | 0 => cases h; exact gcl0
  | 1 => cases h; exact gcl1
  | 2 => cases h; exact gcl2
  | 3 => cases h; exact gcl3
  | 4 => cases h; exact gcl4
  | 5 => cases h; exact gcl5
  | 6 => cases h; exact gcl6
  | 7 => cases h; exact gcl7
  | 8 => cases h; exact gcl8
  | 9 => cases h; exact gcl9
  | 10 => cases h; exact gcl10
  | 11 => cases h; exact gcl11
  | 12 => cases h; exact gcl12
  | n + 13 => cases h
