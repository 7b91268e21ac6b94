/-- the law's helpers, which catch what their one call throws: the method that each calls -/
noncomputable def p_hlp (k : Nat) : Option Nat := bif Nat.beq k 298 then some 117 else bif Nat.beq k 299 then some 118 else bif Nat.beq k 300 then some 130 else bif Nat.beq k 301 then some 162 else none
