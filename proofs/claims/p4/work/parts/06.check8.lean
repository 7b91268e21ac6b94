set_option maxRecDepth 1000000 in
theorem c_l0 : ∀ j, j < 100 → c_row 302 (0 + j) = true := by decide +kernel
set_option maxRecDepth 1000000 in
theorem c_l1 : ∀ j, j < 100 → c_row 302 (100 + j) = true := by decide +kernel
set_option maxRecDepth 1000000 in
theorem c_l2 : ∀ j, j < 100 → c_row 302 (200 + j) = true := by decide +kernel
set_option maxRecDepth 1000000 in
theorem c_l3 : ∀ j, j < 100 → c_row 302 (300 + j) = true := by decide +kernel
set_option maxRecDepth 1000000 in
theorem c_l4 : ∀ j, j < 100 → c_row 302 (400 + j) = true := by decide +kernel
set_option maxRecDepth 1000000 in
theorem c_l5 : ∀ j, j < 100 → c_row 302 (500 + j) = true := by decide +kernel
set_option maxRecDepth 1000000 in
theorem c_l6 : ∀ j, j < 100 → c_row 302 (600 + j) = true := by decide +kernel
set_option maxRecDepth 1000000 in
theorem c_l7 : ∀ j, j < 100 → c_row 302 (700 + j) = true := by decide +kernel
set_option maxRecDepth 1000000 in
theorem c_l8 : ∀ j, j < 100 → c_row 302 (800 + j) = true := by decide +kernel
set_option maxRecDepth 1000000 in
theorem c_l9 : ∀ j, j < 100 → c_row 302 (900 + j) = true := by decide +kernel
set_option maxRecDepth 1000000 in
theorem c_l10 : ∀ j, j < 100 → c_row 302 (1000 + j) = true := by decide +kernel
set_option maxRecDepth 1000000 in
theorem c_l11 : ∀ j, j < 100 → c_row 302 (1100 + j) = true := by decide +kernel
set_option maxRecDepth 1000000 in
theorem c_l12 : ∀ j, j < 100 → c_row 302 (1200 + j) = true := by decide +kernel
set_option maxRecDepth 1000000 in
theorem c_l13 : ∀ j, j < 100 → c_row 302 (1300 + j) = true := by decide +kernel
set_option maxRecDepth 1000000 in
theorem c_l14 : ∀ j, j < 100 → c_row 302 (1400 + j) = true := by decide +kernel
set_option maxRecDepth 1000000 in
theorem c_l15 : ∀ j, j < 100 → c_row 302 (1500 + j) = true := by decide +kernel
set_option maxRecDepth 1000000 in
theorem c_l16 : ∀ j, j < 100 → c_row 302 (1600 + j) = true := by decide +kernel
set_option maxRecDepth 1000000 in
theorem c_l17 : ∀ j, j < 43 → c_row 302 (1700 + j) = true := by decide +kernel
theorem c_lawR (pc : Nat) (h : pc < mN 302) : c_row 302 pc = true := by
  have h : pc < 1743 := h
  by_cases h0 : pc < 100
  · have := c_l0 (pc - 0) (by omega); rwa [show 0 + (pc - 0) = pc by omega] at this
  by_cases h1 : pc < 200
  · have := c_l1 (pc - 100) (by omega); rwa [show 100 + (pc - 100) = pc by omega] at this
  by_cases h2 : pc < 300
  · have := c_l2 (pc - 200) (by omega); rwa [show 200 + (pc - 200) = pc by omega] at this
  by_cases h3 : pc < 400
  · have := c_l3 (pc - 300) (by omega); rwa [show 300 + (pc - 300) = pc by omega] at this
  by_cases h4 : pc < 500
  · have := c_l4 (pc - 400) (by omega); rwa [show 400 + (pc - 400) = pc by omega] at this
  by_cases h5 : pc < 600
  · have := c_l5 (pc - 500) (by omega); rwa [show 500 + (pc - 500) = pc by omega] at this
  by_cases h6 : pc < 700
  · have := c_l6 (pc - 600) (by omega); rwa [show 600 + (pc - 600) = pc by omega] at this
  by_cases h7 : pc < 800
  · have := c_l7 (pc - 700) (by omega); rwa [show 700 + (pc - 700) = pc by omega] at this
  by_cases h8 : pc < 900
  · have := c_l8 (pc - 800) (by omega); rwa [show 800 + (pc - 800) = pc by omega] at this
  by_cases h9 : pc < 1000
  · have := c_l9 (pc - 900) (by omega); rwa [show 900 + (pc - 900) = pc by omega] at this
  by_cases h10 : pc < 1100
  · have := c_l10 (pc - 1000) (by omega); rwa [show 1000 + (pc - 1000) = pc by omega] at this
  by_cases h11 : pc < 1200
  · have := c_l11 (pc - 1100) (by omega); rwa [show 1100 + (pc - 1100) = pc by omega] at this
  by_cases h12 : pc < 1300
  · have := c_l12 (pc - 1200) (by omega); rwa [show 1200 + (pc - 1200) = pc by omega] at this
  by_cases h13 : pc < 1400
  · have := c_l13 (pc - 1300) (by omega); rwa [show 1300 + (pc - 1300) = pc by omega] at this
  by_cases h14 : pc < 1500
  · have := c_l14 (pc - 1400) (by omega); rwa [show 1400 + (pc - 1400) = pc by omega] at this
  by_cases h15 : pc < 1600
  · have := c_l15 (pc - 1500) (by omega); rwa [show 1500 + (pc - 1500) = pc by omega] at this
  by_cases h16 : pc < 1700
  · have := c_l16 (pc - 1600) (by omega); rwa [show 1600 + (pc - 1600) = pc by omega] at this
  by_cases h17 : pc < 1743
  · have := c_l17 (pc - 1700) (by omega); rwa [show 1700 + (pc - 1700) = pc by omega] at this
  omega
