/-! the pools are checked -/
set_option maxRecDepth 100000
theorem kwX0 : chkW RX0 kEX0 = true := by decide +kernel
theorem kwX1 : chkW RX1 kEX1 = true := by decide +kernel
theorem kwX10 : chkW RX10 kEX10 = true := by decide +kernel
theorem kwX11 : chkW RX11 kEX11 = true := by decide +kernel
theorem kwX12 : chkW RX12 kEX12 = true := by decide +kernel
theorem kwX2 : chkW RX2 kEX2 = true := by decide +kernel
theorem kwX3 : chkW RX3 kEX3 = true := by decide +kernel
theorem kwX4 : chkW RX4 kEX4 = true := by decide +kernel
theorem kwX5 : chkW RX5 kEX5 = true := by decide +kernel
theorem kwX6 : chkW RX6 kEX6 = true := by decide +kernel
theorem kwX7 : chkW RX7 kEX7 = true := by decide +kernel
theorem kwX8 : chkW RX8 kEX8 = true := by decide +kernel
theorem kwX9 : chkW RX9 kEX9 = true := by decide +kernel
