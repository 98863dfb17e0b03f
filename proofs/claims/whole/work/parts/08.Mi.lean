set_option maxRecDepth 100000 in
theorem iM : ∀ w ∈ u_ws RX11 TX11 29, w ∈ gW := by decide +kernel
