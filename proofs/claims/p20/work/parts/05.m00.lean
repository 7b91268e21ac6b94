-- 05.base.lean.txt
section
/-- the law's helpers, which catch what their one call throws: the method that each calls -/
noncomputable def p_hlp (k : Nat) : Option Nat := bif Nat.beq k 299 then some 117 else bif Nat.beq k 300 then some 118 else bif Nat.beq k 301 then some 130 else bif Nat.beq k 302 then some 162 else none
end
-- 05a.words.lean.txt
section
/-! The words behind a tree. -/
noncomputable def lw_c0_0 : {l : List Cond // l = ((k2_sels lw_privs).drop 0).take 16} := ⟨[_, _, _, _, _, _, _, _, _, _, _, _, _, _, _, _], rfl⟩
noncomputable def lw_c0_16 : {l : List Cond // l = ((k2_sels lw_privs).drop 16).take 16} := ⟨[_, _, _, _, _, _, _, _, _, _, _, _, _, _, _, _], rfl⟩
noncomputable def lw_c0_32 : {l : List Cond // l = ((k2_sels lw_privs).drop 32).take 16} := ⟨[_, _, _, _, _, _, _, _, _, _, _, _, _, _, _, _], rfl⟩
noncomputable def lw_c0_48 : {l : List Cond // l = ((k2_sels lw_privs).drop 48).take 16} := ⟨[_, _, _, _, _, _, _, _, _, _, _, _, _, _, _, _], rfl⟩
noncomputable def lw_c0_64 : {l : List Cond // l = ((k2_sels lw_privs).drop 64).take 16} := ⟨[_, _], rfl⟩
noncomputable def lw_c1_0 : {l : List Cond // l = ((tables_1_1).drop 0).take 16} := ⟨[_, _, _, _, _, _, _, _, _, _, _, _, _, _, _, _], rfl⟩
noncomputable def lw_c1_16 : {l : List Cond // l = ((tables_1_1).drop 16).take 16} := ⟨[_, _, _, _, _, _, _, _, _, _, _, _, _, _, _, _], rfl⟩
noncomputable def lw_c1_32 : {l : List Cond // l = ((tables_1_1).drop 32).take 16} := ⟨[_, _, _, _, _, _, _, _, _, _, _, _, _, _, _, _], rfl⟩
noncomputable def lw_c1_48 : {l : List Cond // l = ((tables_1_1).drop 48).take 16} := ⟨[_, _, _, _, _, _, _, _, _, _, _, _, _, _, _, _], rfl⟩
noncomputable def lw_c1_64 : {l : List Cond // l = ((tables_1_1).drop 64).take 16} := ⟨[_, _, _, _, _, _, _, _, _, _, _, _, _, _, _, _], rfl⟩
noncomputable def lw_c1_80 : {l : List Cond // l = ((tables_1_1).drop 80).take 16} := ⟨[_, _, _, _, _, _, _, _, _, _, _, _, _, _, _, _], rfl⟩
noncomputable def lw_c1_96 : {l : List Cond // l = ((tables_1_1).drop 96).take 16} := ⟨[_, _, _, _, _, _, _, _, _, _, _, _, _, _, _, _], rfl⟩
noncomputable def lw_c1_112 : {l : List Cond // l = ((tables_1_1).drop 112).take 16} := ⟨[_, _, _, _, _, _, _, _, _, _, _, _, _, _, _, _], rfl⟩
noncomputable def lw_c1_128 : {l : List Cond // l = ((tables_1_1).drop 128).take 16} := ⟨[_, _, _, _, _, _, _, _, _, _, _, _, _, _, _, _], rfl⟩
noncomputable def lw_c1_144 : {l : List Cond // l = ((tables_1_1).drop 144).take 16} := ⟨[_, _, _, _, _, _, _, _, _, _, _, _, _, _, _, _], rfl⟩
noncomputable def lw_c1_160 : {l : List Cond // l = ((tables_1_1).drop 160).take 16} := ⟨[_, _, _, _, _, _, _, _, _, _, _, _, _, _, _, _], rfl⟩
noncomputable def lw_c1_176 : {l : List Cond // l = ((tables_1_1).drop 176).take 16} := ⟨[_, _, _, _, _, _, _, _, _, _, _, _, _, _, _, _], rfl⟩
noncomputable def lw_c1_192 : {l : List Cond // l = ((tables_1_1).drop 192).take 16} := ⟨[_, _, _, _, _, _, _, _, _, _, _, _, _, _, _, _], rfl⟩
noncomputable def lw_c1_208 : {l : List Cond // l = ((tables_1_1).drop 208).take 16} := ⟨[_, _, _, _, _, _, _, _, _, _, _, _, _, _, _, _], rfl⟩
noncomputable def lw_c1_224 : {l : List Cond // l = ((tables_1_1).drop 224).take 16} := ⟨[_, _, _, _, _, _, _, _, _, _, _, _, _, _, _, _], rfl⟩
noncomputable def lw_c2_0 : {l : List Cond // l = ((tables_1_2).drop 0).take 16} := ⟨[_, _, _, _, _, _, _, _, _, _, _, _, _, _, _, _], rfl⟩
noncomputable def lw_c2_16 : {l : List Cond // l = ((tables_1_2).drop 16).take 16} := ⟨[_, _, _, _, _, _, _, _, _, _, _, _, _, _, _, _], rfl⟩
noncomputable def lw_c2_32 : {l : List Cond // l = ((tables_1_2).drop 32).take 16} := ⟨[_, _, _, _, _, _, _, _, _, _, _, _, _, _, _, _], rfl⟩
noncomputable def lw_c2_48 : {l : List Cond // l = ((tables_1_2).drop 48).take 16} := ⟨[_, _, _, _, _, _, _, _, _, _, _, _, _, _, _, _], rfl⟩
noncomputable def lw_c2_64 : {l : List Cond // l = ((tables_1_2).drop 64).take 16} := ⟨[_, _, _, _, _, _, _, _, _, _, _, _, _, _, _, _], rfl⟩
noncomputable def lw_c2_80 : {l : List Cond // l = ((tables_1_2).drop 80).take 16} := ⟨[_, _, _, _, _, _, _, _, _, _, _, _, _, _, _, _], rfl⟩
noncomputable def lw_c2_96 : {l : List Cond // l = ((tables_1_2).drop 96).take 16} := ⟨[_, _, _, _, _, _, _, _, _, _, _, _, _, _, _, _], rfl⟩
noncomputable def lw_c2_112 : {l : List Cond // l = ((tables_1_2).drop 112).take 16} := ⟨[_, _, _, _, _, _, _, _, _, _, _, _, _, _, _, _], rfl⟩
noncomputable def lw_c2_128 : {l : List Cond // l = ((tables_1_2).drop 128).take 16} := ⟨[_, _, _, _, _, _, _, _, _, _, _, _, _, _, _, _], rfl⟩
noncomputable def lw_c2_144 : {l : List Cond // l = ((tables_1_2).drop 144).take 16} := ⟨[_, _, _, _, _, _, _, _, _, _, _, _, _, _, _, _], rfl⟩
noncomputable def lw_c2_160 : {l : List Cond // l = ((tables_1_2).drop 160).take 16} := ⟨[_, _, _, _, _, _, _, _, _, _, _, _, _, _, _, _], rfl⟩
noncomputable def lw_c2_176 : {l : List Cond // l = ((tables_1_2).drop 176).take 16} := ⟨[_, _, _, _, _, _, _, _, _, _, _, _, _, _, _, _], rfl⟩
noncomputable def lw_c2_192 : {l : List Cond // l = ((tables_1_2).drop 192).take 16} := ⟨[_, _, _, _, _, _, _, _, _, _, _, _, _, _, _, _], rfl⟩
noncomputable def lw_c2_208 : {l : List Cond // l = ((tables_1_2).drop 208).take 16} := ⟨[_, _, _, _, _, _, _, _, _, _, _, _, _, _, _, _], rfl⟩
noncomputable def lw_c2_224 : {l : List Cond // l = ((tables_1_2).drop 224).take 16} := ⟨[_, _, _, _, _, _, _, _, _, _, _, _, _, _, _, _], rfl⟩
noncomputable def lw_c3_0 : {l : List Cond // l = ((tables_1_3).drop 0).take 16} := ⟨[_, _, _, _, _, _, _, _, _, _, _, _, _, _, _, _], rfl⟩
noncomputable def lw_c3_16 : {l : List Cond // l = ((tables_1_3).drop 16).take 16} := ⟨[_, _, _, _, _, _, _, _, _, _, _, _, _, _, _, _], rfl⟩
noncomputable def lw_c3_32 : {l : List Cond // l = ((tables_1_3).drop 32).take 16} := ⟨[_, _, _, _, _, _, _, _, _, _, _, _, _, _, _, _], rfl⟩
noncomputable def lw_c3_48 : {l : List Cond // l = ((tables_1_3).drop 48).take 16} := ⟨[_, _, _, _, _, _, _, _, _, _, _, _, _, _, _, _], rfl⟩
noncomputable def lw_c3_64 : {l : List Cond // l = ((tables_1_3).drop 64).take 16} := ⟨[_, _, _, _, _, _, _, _, _, _, _, _, _, _, _, _], rfl⟩
noncomputable def lw_c3_80 : {l : List Cond // l = ((tables_1_3).drop 80).take 16} := ⟨[_, _, _, _, _, _, _, _, _, _, _, _, _, _, _, _], rfl⟩
noncomputable def lw_c3_96 : {l : List Cond // l = ((tables_1_3).drop 96).take 16} := ⟨[_, _, _, _, _, _, _, _, _, _, _, _, _, _, _, _], rfl⟩
noncomputable def lw_c3_112 : {l : List Cond // l = ((tables_1_3).drop 112).take 16} := ⟨[_, _, _, _, _, _, _, _, _, _, _, _, _, _, _, _], rfl⟩
noncomputable def lw_c3_128 : {l : List Cond // l = ((tables_1_3).drop 128).take 16} := ⟨[_, _, _, _, _, _, _, _, _, _, _, _, _, _, _, _], rfl⟩
noncomputable def lw_c3_144 : {l : List Cond // l = ((tables_1_3).drop 144).take 16} := ⟨[_, _, _, _, _, _, _, _, _, _, _, _, _, _, _, _], rfl⟩
noncomputable def lw_c3_160 : {l : List Cond // l = ((tables_1_3).drop 160).take 16} := ⟨[_, _, _, _, _, _, _, _, _, _, _, _, _, _, _, _], rfl⟩
noncomputable def lw_c3_176 : {l : List Cond // l = ((tables_1_3).drop 176).take 16} := ⟨[_, _, _, _, _, _, _, _, _, _, _, _, _, _, _, _], rfl⟩
noncomputable def lw_c3_192 : {l : List Cond // l = ((tables_1_3).drop 192).take 16} := ⟨[_, _, _, _, _, _, _, _, _, _, _, _, _, _, _, _], rfl⟩
noncomputable def lw_c3_208 : {l : List Cond // l = ((tables_1_3).drop 208).take 16} := ⟨[_, _, _, _, _, _, _, _, _, _, _, _, _, _, _, _], rfl⟩
noncomputable def lw_c3_224 : {l : List Cond // l = ((tables_1_3).drop 224).take 16} := ⟨[_, _, _, _, _, _, _, _, _, _, _, _, _, _, _, _], rfl⟩
noncomputable def lw_c4_0 : {l : List Cond // l = ((tables_1_4).drop 0).take 16} := ⟨[_, _, _, _, _, _, _, _, _, _, _, _, _, _, _, _], rfl⟩
noncomputable def lw_c4_16 : {l : List Cond // l = ((tables_1_4).drop 16).take 16} := ⟨[_, _, _, _, _, _, _, _, _, _, _, _, _, _, _, _], rfl⟩
noncomputable def lw_c4_32 : {l : List Cond // l = ((tables_1_4).drop 32).take 16} := ⟨[_, _, _, _, _, _, _, _, _, _, _, _, _, _, _, _], rfl⟩
noncomputable def lw_c4_48 : {l : List Cond // l = ((tables_1_4).drop 48).take 16} := ⟨[_, _, _, _, _, _, _, _, _, _, _, _, _, _, _, _], rfl⟩
noncomputable def lw_c4_64 : {l : List Cond // l = ((tables_1_4).drop 64).take 16} := ⟨[_, _, _, _, _, _, _, _, _, _, _, _, _, _, _, _], rfl⟩
noncomputable def lw_c4_80 : {l : List Cond // l = ((tables_1_4).drop 80).take 16} := ⟨[_, _, _, _, _, _, _, _, _, _, _, _, _, _, _, _], rfl⟩
noncomputable def lw_c4_96 : {l : List Cond // l = ((tables_1_4).drop 96).take 16} := ⟨[_, _, _, _, _, _, _, _, _, _, _, _, _, _, _, _], rfl⟩
noncomputable def lw_c4_112 : {l : List Cond // l = ((tables_1_4).drop 112).take 16} := ⟨[_, _, _, _, _, _, _, _, _, _, _, _, _, _, _, _], rfl⟩
noncomputable def lw_c4_128 : {l : List Cond // l = ((tables_1_4).drop 128).take 16} := ⟨[_, _, _, _, _, _, _, _, _, _, _, _, _, _, _, _], rfl⟩
noncomputable def lw_c4_144 : {l : List Cond // l = ((tables_1_4).drop 144).take 16} := ⟨[_, _, _, _, _, _, _, _, _, _, _, _, _, _, _, _], rfl⟩
noncomputable def lw_c4_160 : {l : List Cond // l = ((tables_1_4).drop 160).take 16} := ⟨[_, _, _, _, _, _, _, _, _, _, _, _, _, _, _, _], rfl⟩
noncomputable def lw_c4_176 : {l : List Cond // l = ((tables_1_4).drop 176).take 16} := ⟨[_, _, _, _, _, _, _, _, _, _, _, _, _, _, _, _], rfl⟩
noncomputable def lw_c4_192 : {l : List Cond // l = ((tables_1_4).drop 192).take 16} := ⟨[_, _, _, _, _, _, _, _, _, _, _, _, _, _, _, _], rfl⟩
noncomputable def lw_c4_208 : {l : List Cond // l = ((tables_1_4).drop 208).take 16} := ⟨[_, _, _, _, _, _, _, _, _, _, _, _, _, _, _, _], rfl⟩
noncomputable def lw_c4_224 : {l : List Cond // l = ((tables_1_4).drop 224).take 16} := ⟨[_, _, _, _, _, _, _, _, _, _, _, _, _, _, _, _], rfl⟩
noncomputable def lw_c5_0 : {l : List Cond // l = ((tables_1_5).drop 0).take 16} := ⟨[_, _, _, _, _, _, _, _, _, _, _, _, _, _, _, _], rfl⟩
noncomputable def lw_c5_16 : {l : List Cond // l = ((tables_1_5).drop 16).take 16} := ⟨[_, _, _, _, _, _, _, _, _, _, _, _, _, _, _, _], rfl⟩
noncomputable def lw_c5_32 : {l : List Cond // l = ((tables_1_5).drop 32).take 16} := ⟨[_, _, _, _, _, _, _, _, _, _, _, _, _, _, _, _], rfl⟩
noncomputable def lw_c5_48 : {l : List Cond // l = ((tables_1_5).drop 48).take 16} := ⟨[_, _, _, _, _, _, _, _, _, _, _, _, _, _, _, _], rfl⟩
noncomputable def lw_c5_64 : {l : List Cond // l = ((tables_1_5).drop 64).take 16} := ⟨[_, _, _, _, _, _, _, _, _, _, _, _, _, _, _, _], rfl⟩
noncomputable def lw_c5_80 : {l : List Cond // l = ((tables_1_5).drop 80).take 16} := ⟨[_, _, _, _, _, _, _, _, _, _, _, _, _, _, _, _], rfl⟩
noncomputable def lw_c5_96 : {l : List Cond // l = ((tables_1_5).drop 96).take 16} := ⟨[_, _, _, _, _, _, _, _, _, _, _, _, _, _, _, _], rfl⟩
noncomputable def lw_c5_112 : {l : List Cond // l = ((tables_1_5).drop 112).take 16} := ⟨[_, _, _, _, _, _, _, _, _, _, _, _, _, _, _, _], rfl⟩
noncomputable def lw_c5_128 : {l : List Cond // l = ((tables_1_5).drop 128).take 16} := ⟨[_, _, _, _, _, _, _, _, _, _, _, _, _, _, _, _], rfl⟩
noncomputable def lw_c5_144 : {l : List Cond // l = ((tables_1_5).drop 144).take 16} := ⟨[_, _, _, _, _, _, _, _, _, _, _, _, _, _, _, _], rfl⟩
noncomputable def lw_c5_160 : {l : List Cond // l = ((tables_1_5).drop 160).take 16} := ⟨[_, _, _, _, _, _, _, _, _, _, _, _, _, _, _, _], rfl⟩
noncomputable def lw_c5_176 : {l : List Cond // l = ((tables_1_5).drop 176).take 16} := ⟨[_, _, _, _, _, _, _, _, _, _, _, _, _, _, _, _], rfl⟩
noncomputable def lw_c5_192 : {l : List Cond // l = ((tables_1_5).drop 192).take 16} := ⟨[_, _, _, _, _, _, _, _, _, _, _, _, _, _, _, _], rfl⟩
noncomputable def lw_c5_208 : {l : List Cond // l = ((tables_1_5).drop 208).take 16} := ⟨[_, _, _, _, _, _, _, _, _, _, _, _, _, _, _, _], rfl⟩
noncomputable def lw_c5_224 : {l : List Cond // l = ((tables_1_5).drop 224).take 16} := ⟨[_, _, _, _, _, _, _, _, _, _, _, _, _, _, _, _], rfl⟩
noncomputable def lw_c6_0 : {l : List Cond // l = ((tables_1_6).drop 0).take 16} := ⟨[_, _, _, _, _, _, _, _, _, _, _, _, _, _, _, _], rfl⟩
noncomputable def lw_c6_16 : {l : List Cond // l = ((tables_1_6).drop 16).take 16} := ⟨[_, _, _, _, _, _, _, _, _, _, _, _, _, _, _, _], rfl⟩
noncomputable def lw_c6_32 : {l : List Cond // l = ((tables_1_6).drop 32).take 16} := ⟨[_, _, _, _, _, _, _, _, _, _, _, _, _, _, _, _], rfl⟩
noncomputable def lw_c6_48 : {l : List Cond // l = ((tables_1_6).drop 48).take 16} := ⟨[_, _, _, _, _, _, _, _, _, _, _, _, _, _, _, _], rfl⟩
noncomputable def lw_c6_64 : {l : List Cond // l = ((tables_1_6).drop 64).take 16} := ⟨[_, _, _, _, _, _, _, _, _, _, _, _, _, _, _, _], rfl⟩
noncomputable def lw_c6_80 : {l : List Cond // l = ((tables_1_6).drop 80).take 16} := ⟨[_, _, _, _, _, _, _, _, _, _, _, _, _, _, _, _], rfl⟩
noncomputable def lw_c6_96 : {l : List Cond // l = ((tables_1_6).drop 96).take 16} := ⟨[_, _, _, _, _, _, _, _, _, _, _, _, _, _, _, _], rfl⟩
noncomputable def lw_c6_112 : {l : List Cond // l = ((tables_1_6).drop 112).take 16} := ⟨[_, _, _, _, _, _, _, _, _, _, _, _, _, _, _, _], rfl⟩
noncomputable def lw_c6_128 : {l : List Cond // l = ((tables_1_6).drop 128).take 16} := ⟨[_, _, _, _, _, _, _, _, _, _, _, _, _, _, _, _], rfl⟩
noncomputable def lw_c6_144 : {l : List Cond // l = ((tables_1_6).drop 144).take 16} := ⟨[_, _, _, _, _, _, _, _, _, _, _, _, _, _, _, _], rfl⟩
noncomputable def lw_c6_160 : {l : List Cond // l = ((tables_1_6).drop 160).take 16} := ⟨[_, _, _, _, _, _, _, _, _, _, _, _, _, _, _, _], rfl⟩
noncomputable def lw_c6_176 : {l : List Cond // l = ((tables_1_6).drop 176).take 16} := ⟨[_, _, _, _, _, _, _, _, _, _, _, _, _, _, _, _], rfl⟩
noncomputable def lw_c6_192 : {l : List Cond // l = ((tables_1_6).drop 192).take 16} := ⟨[_, _, _, _, _, _, _, _, _, _, _, _, _, _, _, _], rfl⟩
noncomputable def lw_c6_208 : {l : List Cond // l = ((tables_1_6).drop 208).take 16} := ⟨[_, _, _, _, _, _, _, _, _, _, _, _, _, _, _, _], rfl⟩
noncomputable def lw_c6_224 : {l : List Cond // l = ((tables_1_6).drop 224).take 16} := ⟨[_, _, _, _, _, _, _, _, _, _, _, _, _, _, _, _], rfl⟩
noncomputable def lw_c7_0 : {l : List Cond // l = ((tables_1_7).drop 0).take 16} := ⟨[_, _, _, _, _, _, _, _, _, _, _, _, _, _, _, _], rfl⟩
noncomputable def lw_c7_16 : {l : List Cond // l = ((tables_1_7).drop 16).take 16} := ⟨[_, _, _, _, _, _, _, _, _, _, _, _, _, _, _, _], rfl⟩
noncomputable def lw_c7_32 : {l : List Cond // l = ((tables_1_7).drop 32).take 16} := ⟨[_, _, _, _, _, _, _, _, _, _, _, _, _, _, _, _], rfl⟩
noncomputable def lw_c7_48 : {l : List Cond // l = ((tables_1_7).drop 48).take 16} := ⟨[_, _, _, _, _, _, _, _, _, _, _, _, _, _, _, _], rfl⟩
noncomputable def lw_c7_64 : {l : List Cond // l = ((tables_1_7).drop 64).take 16} := ⟨[_, _, _, _, _, _, _, _, _, _, _, _, _, _, _, _], rfl⟩
noncomputable def lw_c7_80 : {l : List Cond // l = ((tables_1_7).drop 80).take 16} := ⟨[_, _, _, _, _, _, _, _, _, _, _, _, _, _, _, _], rfl⟩
noncomputable def lw_c7_96 : {l : List Cond // l = ((tables_1_7).drop 96).take 16} := ⟨[_, _, _, _, _, _, _, _, _, _, _, _, _, _, _, _], rfl⟩
noncomputable def lw_c7_112 : {l : List Cond // l = ((tables_1_7).drop 112).take 16} := ⟨[_, _, _, _, _, _, _, _, _, _, _, _, _, _, _, _], rfl⟩
noncomputable def lw_c7_128 : {l : List Cond // l = ((tables_1_7).drop 128).take 16} := ⟨[_, _, _, _, _, _, _, _, _, _, _, _, _, _, _, _], rfl⟩
noncomputable def lw_c7_144 : {l : List Cond // l = ((tables_1_7).drop 144).take 16} := ⟨[_, _, _, _, _, _, _, _, _, _, _, _, _, _, _, _], rfl⟩
noncomputable def lw_c7_160 : {l : List Cond // l = ((tables_1_7).drop 160).take 16} := ⟨[_, _, _, _, _, _, _, _, _, _, _, _, _, _, _, _], rfl⟩
noncomputable def lw_c7_176 : {l : List Cond // l = ((tables_1_7).drop 176).take 16} := ⟨[_, _, _, _, _, _, _, _, _, _, _, _, _, _, _, _], rfl⟩
noncomputable def lw_c7_192 : {l : List Cond // l = ((tables_1_7).drop 192).take 16} := ⟨[_, _, _, _, _, _, _, _, _, _, _, _, _, _, _, _], rfl⟩
noncomputable def lw_c7_208 : {l : List Cond // l = ((tables_1_7).drop 208).take 16} := ⟨[_, _, _, _, _, _, _, _, _, _, _, _, _, _, _, _], rfl⟩
noncomputable def lw_c7_224 : {l : List Cond // l = ((tables_1_7).drop 224).take 16} := ⟨[_, _, _, _, _, _, _, _, _, _, _, _, _, _, _, _], rfl⟩
noncomputable def lw_c8_0 : {l : List Cond // l = ((tables_1_8).drop 0).take 16} := ⟨[_, _, _, _, _, _, _, _, _, _, _, _, _, _, _, _], rfl⟩
noncomputable def lw_c8_16 : {l : List Cond // l = ((tables_1_8).drop 16).take 16} := ⟨[_, _, _, _, _, _, _, _, _, _, _, _, _, _, _, _], rfl⟩
noncomputable def lw_c8_32 : {l : List Cond // l = ((tables_1_8).drop 32).take 16} := ⟨[_, _, _, _, _, _, _, _, _, _, _, _, _, _, _, _], rfl⟩
noncomputable def lw_c8_48 : {l : List Cond // l = ((tables_1_8).drop 48).take 16} := ⟨[_, _, _, _, _, _, _, _, _, _, _, _, _, _, _, _], rfl⟩
noncomputable def lw_c8_64 : {l : List Cond // l = ((tables_1_8).drop 64).take 16} := ⟨[_, _, _, _, _, _, _, _, _, _, _, _, _, _, _, _], rfl⟩
noncomputable def lw_c8_80 : {l : List Cond // l = ((tables_1_8).drop 80).take 16} := ⟨[_, _, _, _, _, _, _, _, _, _, _, _, _, _, _, _], rfl⟩
noncomputable def lw_c8_96 : {l : List Cond // l = ((tables_1_8).drop 96).take 16} := ⟨[_, _, _, _, _, _, _, _, _, _, _, _, _, _, _, _], rfl⟩
noncomputable def lw_c8_112 : {l : List Cond // l = ((tables_1_8).drop 112).take 16} := ⟨[_, _, _, _, _, _, _, _, _, _, _, _, _, _, _, _], rfl⟩
noncomputable def lw_c8_128 : {l : List Cond // l = ((tables_1_8).drop 128).take 16} := ⟨[_, _, _, _, _, _, _, _, _, _, _, _, _, _, _, _], rfl⟩
noncomputable def lw_c8_144 : {l : List Cond // l = ((tables_1_8).drop 144).take 16} := ⟨[_, _, _, _, _, _, _, _, _, _, _, _, _, _, _, _], rfl⟩
noncomputable def lw_c8_160 : {l : List Cond // l = ((tables_1_8).drop 160).take 16} := ⟨[_, _, _, _, _, _, _, _, _, _, _, _, _, _, _, _], rfl⟩
noncomputable def lw_c8_176 : {l : List Cond // l = ((tables_1_8).drop 176).take 16} := ⟨[_, _, _, _, _, _, _, _, _, _, _, _, _, _, _, _], rfl⟩
noncomputable def lw_c8_192 : {l : List Cond // l = ((tables_1_8).drop 192).take 16} := ⟨[_, _, _, _, _, _, _, _, _, _, _, _, _, _, _, _], rfl⟩
noncomputable def lw_c8_208 : {l : List Cond // l = ((tables_1_8).drop 208).take 16} := ⟨[_, _, _, _, _, _, _, _, _, _, _, _], rfl⟩
theorem lw_h0 : ∀ w ∈ k2_sels lw_privs, w ∈ lw_tbl := fun w h => List.mem_append.mpr (Or.inl h)
theorem lw_h1 : ∀ w ∈ tables_1_1, w ∈ lw_tbl := fun w h => List.mem_append.mpr (Or.inr (List.mem_append.mpr (Or.inl (h))))
theorem lw_h2 : ∀ w ∈ tables_1_2, w ∈ lw_tbl := fun w h => List.mem_append.mpr (Or.inr (List.mem_append.mpr (Or.inr (List.mem_append.mpr (Or.inl (h))))))
theorem lw_h3 : ∀ w ∈ tables_1_3, w ∈ lw_tbl := fun w h => List.mem_append.mpr (Or.inr (List.mem_append.mpr (Or.inr (List.mem_append.mpr (Or.inr (List.mem_append.mpr (Or.inl (h))))))))
theorem lw_h4 : ∀ w ∈ tables_1_4, w ∈ lw_tbl := fun w h => List.mem_append.mpr (Or.inr (List.mem_append.mpr (Or.inr (List.mem_append.mpr (Or.inr (List.mem_append.mpr (Or.inr (List.mem_append.mpr (Or.inl (h))))))))))
theorem lw_h5 : ∀ w ∈ tables_1_5, w ∈ lw_tbl := fun w h => List.mem_append.mpr (Or.inr (List.mem_append.mpr (Or.inr (List.mem_append.mpr (Or.inr (List.mem_append.mpr (Or.inr (List.mem_append.mpr (Or.inr (List.mem_append.mpr (Or.inl (h))))))))))))
theorem lw_h6 : ∀ w ∈ tables_1_6, w ∈ lw_tbl := fun w h => List.mem_append.mpr (Or.inr (List.mem_append.mpr (Or.inr (List.mem_append.mpr (Or.inr (List.mem_append.mpr (Or.inr (List.mem_append.mpr (Or.inr (List.mem_append.mpr (Or.inr (List.mem_append.mpr (Or.inl (h))))))))))))))
theorem lw_h7 : ∀ w ∈ tables_1_7, w ∈ lw_tbl := fun w h => List.mem_append.mpr (Or.inr (List.mem_append.mpr (Or.inr (List.mem_append.mpr (Or.inr (List.mem_append.mpr (Or.inr (List.mem_append.mpr (Or.inr (List.mem_append.mpr (Or.inr (List.mem_append.mpr (Or.inr (List.mem_append.mpr (Or.inl (h))))))))))))))))
theorem lw_h8 : ∀ w ∈ tables_1_8, w ∈ lw_tbl := fun w h => List.mem_append.mpr (Or.inr (List.mem_append.mpr (Or.inr (List.mem_append.mpr (Or.inr (List.mem_append.mpr (Or.inr (List.mem_append.mpr (Or.inr (List.mem_append.mpr (Or.inr (List.mem_append.mpr (Or.inr (List.mem_append.mpr (Or.inr (h))))))))))))))))
theorem lw_leaf {T : List Cond} {a : Nat} (c : {l : List Cond // l = (T.drop a).take 16}) (hT : ∀ w ∈ T, w ∈ lw_tbl) (o : Nat) (w : Cond) (h : c.1[o]? = some w) : w ∈ lw_tbl := by
  have h1 := List.mem_of_getElem? h
  rw [c.2] at h1
  exact hT w (List.mem_of_mem_drop (List.mem_of_mem_take h1))
theorem lw_bif {x : Bool} {a b : Option Cond} {w : Cond} (h1 : a = some w → w ∈ lw_tbl) (h2 : b = some w → w ∈ lw_tbl) (h : (bif x then a else b) = some w) : w ∈ lw_tbl := by
  cases x
  · exact h2 h
  · exact h1 h
noncomputable def lw_g (i : Nat) : Option Cond := (bif Nat.blt i 978 then (bif Nat.blt i 482 then (bif Nat.blt i 226 then (bif Nat.blt i 98 then (bif Nat.blt i 48 then (bif Nat.blt i 16 then lw_c0_0.1[i - 0]? else (bif Nat.blt i 32 then lw_c0_16.1[i - 16]? else lw_c0_32.1[i - 32]?)) else (bif Nat.blt i 66 then (bif Nat.blt i 64 then lw_c0_48.1[i - 48]? else lw_c0_64.1[i - 64]?) else (bif Nat.blt i 82 then lw_c1_0.1[i - 66]? else lw_c1_16.1[i - 82]?))) else (bif Nat.blt i 162 then (bif Nat.blt i 130 then (bif Nat.blt i 114 then lw_c1_32.1[i - 98]? else lw_c1_48.1[i - 114]?) else (bif Nat.blt i 146 then lw_c1_64.1[i - 130]? else lw_c1_80.1[i - 146]?)) else (bif Nat.blt i 194 then (bif Nat.blt i 178 then lw_c1_96.1[i - 162]? else lw_c1_112.1[i - 178]?) else (bif Nat.blt i 210 then lw_c1_128.1[i - 194]? else lw_c1_144.1[i - 210]?)))) else (bif Nat.blt i 354 then (bif Nat.blt i 290 then (bif Nat.blt i 258 then (bif Nat.blt i 242 then lw_c1_160.1[i - 226]? else lw_c1_176.1[i - 242]?) else (bif Nat.blt i 274 then lw_c1_192.1[i - 258]? else lw_c1_208.1[i - 274]?)) else (bif Nat.blt i 322 then (bif Nat.blt i 306 then lw_c1_224.1[i - 290]? else lw_c2_0.1[i - 306]?) else (bif Nat.blt i 338 then lw_c2_16.1[i - 322]? else lw_c2_32.1[i - 338]?))) else (bif Nat.blt i 418 then (bif Nat.blt i 386 then (bif Nat.blt i 370 then lw_c2_48.1[i - 354]? else lw_c2_64.1[i - 370]?) else (bif Nat.blt i 402 then lw_c2_80.1[i - 386]? else lw_c2_96.1[i - 402]?)) else (bif Nat.blt i 450 then (bif Nat.blt i 434 then lw_c2_112.1[i - 418]? else lw_c2_128.1[i - 434]?) else (bif Nat.blt i 466 then lw_c2_144.1[i - 450]? else lw_c2_160.1[i - 466]?))))) else (bif Nat.blt i 722 then (bif Nat.blt i 594 then (bif Nat.blt i 530 then (bif Nat.blt i 498 then lw_c2_176.1[i - 482]? else (bif Nat.blt i 514 then lw_c2_192.1[i - 498]? else lw_c2_208.1[i - 514]?)) else (bif Nat.blt i 562 then (bif Nat.blt i 546 then lw_c2_224.1[i - 530]? else lw_c3_0.1[i - 546]?) else (bif Nat.blt i 578 then lw_c3_16.1[i - 562]? else lw_c3_32.1[i - 578]?))) else (bif Nat.blt i 658 then (bif Nat.blt i 626 then (bif Nat.blt i 610 then lw_c3_48.1[i - 594]? else lw_c3_64.1[i - 610]?) else (bif Nat.blt i 642 then lw_c3_80.1[i - 626]? else lw_c3_96.1[i - 642]?)) else (bif Nat.blt i 690 then (bif Nat.blt i 674 then lw_c3_112.1[i - 658]? else lw_c3_128.1[i - 674]?) else (bif Nat.blt i 706 then lw_c3_144.1[i - 690]? else lw_c3_160.1[i - 706]?)))) else (bif Nat.blt i 850 then (bif Nat.blt i 786 then (bif Nat.blt i 754 then (bif Nat.blt i 738 then lw_c3_176.1[i - 722]? else lw_c3_192.1[i - 738]?) else (bif Nat.blt i 770 then lw_c3_208.1[i - 754]? else lw_c3_224.1[i - 770]?)) else (bif Nat.blt i 818 then (bif Nat.blt i 802 then lw_c4_0.1[i - 786]? else lw_c4_16.1[i - 802]?) else (bif Nat.blt i 834 then lw_c4_32.1[i - 818]? else lw_c4_48.1[i - 834]?))) else (bif Nat.blt i 914 then (bif Nat.blt i 882 then (bif Nat.blt i 866 then lw_c4_64.1[i - 850]? else lw_c4_80.1[i - 866]?) else (bif Nat.blt i 898 then lw_c4_96.1[i - 882]? else lw_c4_112.1[i - 898]?)) else (bif Nat.blt i 946 then (bif Nat.blt i 930 then lw_c4_128.1[i - 914]? else lw_c4_144.1[i - 930]?) else (bif Nat.blt i 962 then lw_c4_160.1[i - 946]? else lw_c4_176.1[i - 962]?)))))) else (bif Nat.blt i 1474 then (bif Nat.blt i 1218 then (bif Nat.blt i 1090 then (bif Nat.blt i 1026 then (bif Nat.blt i 994 then lw_c4_192.1[i - 978]? else (bif Nat.blt i 1010 then lw_c4_208.1[i - 994]? else lw_c4_224.1[i - 1010]?)) else (bif Nat.blt i 1058 then (bif Nat.blt i 1042 then lw_c5_0.1[i - 1026]? else lw_c5_16.1[i - 1042]?) else (bif Nat.blt i 1074 then lw_c5_32.1[i - 1058]? else lw_c5_48.1[i - 1074]?))) else (bif Nat.blt i 1154 then (bif Nat.blt i 1122 then (bif Nat.blt i 1106 then lw_c5_64.1[i - 1090]? else lw_c5_80.1[i - 1106]?) else (bif Nat.blt i 1138 then lw_c5_96.1[i - 1122]? else lw_c5_112.1[i - 1138]?)) else (bif Nat.blt i 1186 then (bif Nat.blt i 1170 then lw_c5_128.1[i - 1154]? else lw_c5_144.1[i - 1170]?) else (bif Nat.blt i 1202 then lw_c5_160.1[i - 1186]? else lw_c5_176.1[i - 1202]?)))) else (bif Nat.blt i 1346 then (bif Nat.blt i 1282 then (bif Nat.blt i 1250 then (bif Nat.blt i 1234 then lw_c5_192.1[i - 1218]? else lw_c5_208.1[i - 1234]?) else (bif Nat.blt i 1266 then lw_c5_224.1[i - 1250]? else lw_c6_0.1[i - 1266]?)) else (bif Nat.blt i 1314 then (bif Nat.blt i 1298 then lw_c6_16.1[i - 1282]? else lw_c6_32.1[i - 1298]?) else (bif Nat.blt i 1330 then lw_c6_48.1[i - 1314]? else lw_c6_64.1[i - 1330]?))) else (bif Nat.blt i 1410 then (bif Nat.blt i 1378 then (bif Nat.blt i 1362 then lw_c6_80.1[i - 1346]? else lw_c6_96.1[i - 1362]?) else (bif Nat.blt i 1394 then lw_c6_112.1[i - 1378]? else lw_c6_128.1[i - 1394]?)) else (bif Nat.blt i 1442 then (bif Nat.blt i 1426 then lw_c6_144.1[i - 1410]? else lw_c6_160.1[i - 1426]?) else (bif Nat.blt i 1458 then lw_c6_176.1[i - 1442]? else lw_c6_192.1[i - 1458]?))))) else (bif Nat.blt i 1714 then (bif Nat.blt i 1586 then (bif Nat.blt i 1522 then (bif Nat.blt i 1490 then lw_c6_208.1[i - 1474]? else (bif Nat.blt i 1506 then lw_c6_224.1[i - 1490]? else lw_c7_0.1[i - 1506]?)) else (bif Nat.blt i 1554 then (bif Nat.blt i 1538 then lw_c7_16.1[i - 1522]? else lw_c7_32.1[i - 1538]?) else (bif Nat.blt i 1570 then lw_c7_48.1[i - 1554]? else lw_c7_64.1[i - 1570]?))) else (bif Nat.blt i 1650 then (bif Nat.blt i 1618 then (bif Nat.blt i 1602 then lw_c7_80.1[i - 1586]? else lw_c7_96.1[i - 1602]?) else (bif Nat.blt i 1634 then lw_c7_112.1[i - 1618]? else lw_c7_128.1[i - 1634]?)) else (bif Nat.blt i 1682 then (bif Nat.blt i 1666 then lw_c7_144.1[i - 1650]? else lw_c7_160.1[i - 1666]?) else (bif Nat.blt i 1698 then lw_c7_176.1[i - 1682]? else lw_c7_192.1[i - 1698]?)))) else (bif Nat.blt i 1842 then (bif Nat.blt i 1778 then (bif Nat.blt i 1746 then (bif Nat.blt i 1730 then lw_c7_208.1[i - 1714]? else lw_c7_224.1[i - 1730]?) else (bif Nat.blt i 1762 then lw_c8_0.1[i - 1746]? else lw_c8_16.1[i - 1762]?)) else (bif Nat.blt i 1810 then (bif Nat.blt i 1794 then lw_c8_32.1[i - 1778]? else lw_c8_48.1[i - 1794]?) else (bif Nat.blt i 1826 then lw_c8_64.1[i - 1810]? else lw_c8_80.1[i - 1826]?))) else (bif Nat.blt i 1906 then (bif Nat.blt i 1874 then (bif Nat.blt i 1858 then lw_c8_96.1[i - 1842]? else lw_c8_112.1[i - 1858]?) else (bif Nat.blt i 1890 then lw_c8_128.1[i - 1874]? else lw_c8_144.1[i - 1890]?)) else (bif Nat.blt i 1938 then (bif Nat.blt i 1922 then lw_c8_160.1[i - 1906]? else lw_c8_176.1[i - 1922]?) else (bif Nat.blt i 1954 then lw_c8_192.1[i - 1938]? else lw_c8_208.1[i - 1954]?)))))))
theorem lw_gm (i : Nat) (w : Cond) : lw_g i = some w → w ∈ lw_tbl := lw_bif (lw_bif (lw_bif (lw_bif (lw_bif (lw_bif (lw_leaf lw_c0_0 lw_h0 (i - 0) w) (lw_bif (lw_leaf lw_c0_16 lw_h0 (i - 16) w) (lw_leaf lw_c0_32 lw_h0 (i - 32) w))) (lw_bif (lw_bif (lw_leaf lw_c0_48 lw_h0 (i - 48) w) (lw_leaf lw_c0_64 lw_h0 (i - 64) w)) (lw_bif (lw_leaf lw_c1_0 lw_h1 (i - 66) w) (lw_leaf lw_c1_16 lw_h1 (i - 82) w)))) (lw_bif (lw_bif (lw_bif (lw_leaf lw_c1_32 lw_h1 (i - 98) w) (lw_leaf lw_c1_48 lw_h1 (i - 114) w)) (lw_bif (lw_leaf lw_c1_64 lw_h1 (i - 130) w) (lw_leaf lw_c1_80 lw_h1 (i - 146) w))) (lw_bif (lw_bif (lw_leaf lw_c1_96 lw_h1 (i - 162) w) (lw_leaf lw_c1_112 lw_h1 (i - 178) w)) (lw_bif (lw_leaf lw_c1_128 lw_h1 (i - 194) w) (lw_leaf lw_c1_144 lw_h1 (i - 210) w))))) (lw_bif (lw_bif (lw_bif (lw_bif (lw_leaf lw_c1_160 lw_h1 (i - 226) w) (lw_leaf lw_c1_176 lw_h1 (i - 242) w)) (lw_bif (lw_leaf lw_c1_192 lw_h1 (i - 258) w) (lw_leaf lw_c1_208 lw_h1 (i - 274) w))) (lw_bif (lw_bif (lw_leaf lw_c1_224 lw_h1 (i - 290) w) (lw_leaf lw_c2_0 lw_h2 (i - 306) w)) (lw_bif (lw_leaf lw_c2_16 lw_h2 (i - 322) w) (lw_leaf lw_c2_32 lw_h2 (i - 338) w)))) (lw_bif (lw_bif (lw_bif (lw_leaf lw_c2_48 lw_h2 (i - 354) w) (lw_leaf lw_c2_64 lw_h2 (i - 370) w)) (lw_bif (lw_leaf lw_c2_80 lw_h2 (i - 386) w) (lw_leaf lw_c2_96 lw_h2 (i - 402) w))) (lw_bif (lw_bif (lw_leaf lw_c2_112 lw_h2 (i - 418) w) (lw_leaf lw_c2_128 lw_h2 (i - 434) w)) (lw_bif (lw_leaf lw_c2_144 lw_h2 (i - 450) w) (lw_leaf lw_c2_160 lw_h2 (i - 466) w)))))) (lw_bif (lw_bif (lw_bif (lw_bif (lw_leaf lw_c2_176 lw_h2 (i - 482) w) (lw_bif (lw_leaf lw_c2_192 lw_h2 (i - 498) w) (lw_leaf lw_c2_208 lw_h2 (i - 514) w))) (lw_bif (lw_bif (lw_leaf lw_c2_224 lw_h2 (i - 530) w) (lw_leaf lw_c3_0 lw_h3 (i - 546) w)) (lw_bif (lw_leaf lw_c3_16 lw_h3 (i - 562) w) (lw_leaf lw_c3_32 lw_h3 (i - 578) w)))) (lw_bif (lw_bif (lw_bif (lw_leaf lw_c3_48 lw_h3 (i - 594) w) (lw_leaf lw_c3_64 lw_h3 (i - 610) w)) (lw_bif (lw_leaf lw_c3_80 lw_h3 (i - 626) w) (lw_leaf lw_c3_96 lw_h3 (i - 642) w))) (lw_bif (lw_bif (lw_leaf lw_c3_112 lw_h3 (i - 658) w) (lw_leaf lw_c3_128 lw_h3 (i - 674) w)) (lw_bif (lw_leaf lw_c3_144 lw_h3 (i - 690) w) (lw_leaf lw_c3_160 lw_h3 (i - 706) w))))) (lw_bif (lw_bif (lw_bif (lw_bif (lw_leaf lw_c3_176 lw_h3 (i - 722) w) (lw_leaf lw_c3_192 lw_h3 (i - 738) w)) (lw_bif (lw_leaf lw_c3_208 lw_h3 (i - 754) w) (lw_leaf lw_c3_224 lw_h3 (i - 770) w))) (lw_bif (lw_bif (lw_leaf lw_c4_0 lw_h4 (i - 786) w) (lw_leaf lw_c4_16 lw_h4 (i - 802) w)) (lw_bif (lw_leaf lw_c4_32 lw_h4 (i - 818) w) (lw_leaf lw_c4_48 lw_h4 (i - 834) w)))) (lw_bif (lw_bif (lw_bif (lw_leaf lw_c4_64 lw_h4 (i - 850) w) (lw_leaf lw_c4_80 lw_h4 (i - 866) w)) (lw_bif (lw_leaf lw_c4_96 lw_h4 (i - 882) w) (lw_leaf lw_c4_112 lw_h4 (i - 898) w))) (lw_bif (lw_bif (lw_leaf lw_c4_128 lw_h4 (i - 914) w) (lw_leaf lw_c4_144 lw_h4 (i - 930) w)) (lw_bif (lw_leaf lw_c4_160 lw_h4 (i - 946) w) (lw_leaf lw_c4_176 lw_h4 (i - 962) w))))))) (lw_bif (lw_bif (lw_bif (lw_bif (lw_bif (lw_leaf lw_c4_192 lw_h4 (i - 978) w) (lw_bif (lw_leaf lw_c4_208 lw_h4 (i - 994) w) (lw_leaf lw_c4_224 lw_h4 (i - 1010) w))) (lw_bif (lw_bif (lw_leaf lw_c5_0 lw_h5 (i - 1026) w) (lw_leaf lw_c5_16 lw_h5 (i - 1042) w)) (lw_bif (lw_leaf lw_c5_32 lw_h5 (i - 1058) w) (lw_leaf lw_c5_48 lw_h5 (i - 1074) w)))) (lw_bif (lw_bif (lw_bif (lw_leaf lw_c5_64 lw_h5 (i - 1090) w) (lw_leaf lw_c5_80 lw_h5 (i - 1106) w)) (lw_bif (lw_leaf lw_c5_96 lw_h5 (i - 1122) w) (lw_leaf lw_c5_112 lw_h5 (i - 1138) w))) (lw_bif (lw_bif (lw_leaf lw_c5_128 lw_h5 (i - 1154) w) (lw_leaf lw_c5_144 lw_h5 (i - 1170) w)) (lw_bif (lw_leaf lw_c5_160 lw_h5 (i - 1186) w) (lw_leaf lw_c5_176 lw_h5 (i - 1202) w))))) (lw_bif (lw_bif (lw_bif (lw_bif (lw_leaf lw_c5_192 lw_h5 (i - 1218) w) (lw_leaf lw_c5_208 lw_h5 (i - 1234) w)) (lw_bif (lw_leaf lw_c5_224 lw_h5 (i - 1250) w) (lw_leaf lw_c6_0 lw_h6 (i - 1266) w))) (lw_bif (lw_bif (lw_leaf lw_c6_16 lw_h6 (i - 1282) w) (lw_leaf lw_c6_32 lw_h6 (i - 1298) w)) (lw_bif (lw_leaf lw_c6_48 lw_h6 (i - 1314) w) (lw_leaf lw_c6_64 lw_h6 (i - 1330) w)))) (lw_bif (lw_bif (lw_bif (lw_leaf lw_c6_80 lw_h6 (i - 1346) w) (lw_leaf lw_c6_96 lw_h6 (i - 1362) w)) (lw_bif (lw_leaf lw_c6_112 lw_h6 (i - 1378) w) (lw_leaf lw_c6_128 lw_h6 (i - 1394) w))) (lw_bif (lw_bif (lw_leaf lw_c6_144 lw_h6 (i - 1410) w) (lw_leaf lw_c6_160 lw_h6 (i - 1426) w)) (lw_bif (lw_leaf lw_c6_176 lw_h6 (i - 1442) w) (lw_leaf lw_c6_192 lw_h6 (i - 1458) w)))))) (lw_bif (lw_bif (lw_bif (lw_bif (lw_leaf lw_c6_208 lw_h6 (i - 1474) w) (lw_bif (lw_leaf lw_c6_224 lw_h6 (i - 1490) w) (lw_leaf lw_c7_0 lw_h7 (i - 1506) w))) (lw_bif (lw_bif (lw_leaf lw_c7_16 lw_h7 (i - 1522) w) (lw_leaf lw_c7_32 lw_h7 (i - 1538) w)) (lw_bif (lw_leaf lw_c7_48 lw_h7 (i - 1554) w) (lw_leaf lw_c7_64 lw_h7 (i - 1570) w)))) (lw_bif (lw_bif (lw_bif (lw_leaf lw_c7_80 lw_h7 (i - 1586) w) (lw_leaf lw_c7_96 lw_h7 (i - 1602) w)) (lw_bif (lw_leaf lw_c7_112 lw_h7 (i - 1618) w) (lw_leaf lw_c7_128 lw_h7 (i - 1634) w))) (lw_bif (lw_bif (lw_leaf lw_c7_144 lw_h7 (i - 1650) w) (lw_leaf lw_c7_160 lw_h7 (i - 1666) w)) (lw_bif (lw_leaf lw_c7_176 lw_h7 (i - 1682) w) (lw_leaf lw_c7_192 lw_h7 (i - 1698) w))))) (lw_bif (lw_bif (lw_bif (lw_bif (lw_leaf lw_c7_208 lw_h7 (i - 1714) w) (lw_leaf lw_c7_224 lw_h7 (i - 1730) w)) (lw_bif (lw_leaf lw_c8_0 lw_h8 (i - 1746) w) (lw_leaf lw_c8_16 lw_h8 (i - 1762) w))) (lw_bif (lw_bif (lw_leaf lw_c8_32 lw_h8 (i - 1778) w) (lw_leaf lw_c8_48 lw_h8 (i - 1794) w)) (lw_bif (lw_leaf lw_c8_64 lw_h8 (i - 1810) w) (lw_leaf lw_c8_80 lw_h8 (i - 1826) w)))) (lw_bif (lw_bif (lw_bif (lw_leaf lw_c8_96 lw_h8 (i - 1842) w) (lw_leaf lw_c8_112 lw_h8 (i - 1858) w)) (lw_bif (lw_leaf lw_c8_128 lw_h8 (i - 1874) w) (lw_leaf lw_c8_144 lw_h8 (i - 1890) w))) (lw_bif (lw_bif (lw_leaf lw_c8_160 lw_h8 (i - 1906) w) (lw_leaf lw_c8_176 lw_h8 (i - 1922) w)) (lw_bif (lw_leaf lw_c8_192 lw_h8 (i - 1938) w) (lw_leaf lw_c8_208 lw_h8 (i - 1954) w)))))))
end
-- 05b.enc.lean.txt
section
/-! The words by numbers: a word is a code (its kind; the class by one of its methods; pool number; field or method). -/
noncomputable abbrev wE : Type := Nat × Nat × Nat × Nat × Int
/-- a method of the same class *that stands first* -/
noncomputable def n_rp (k : Nat) : Nat := (bif Nat.blt k 73 then (bif Nat.blt k 44 then (bif Nat.blt k 14 then (bif Nat.blt k 6 then 0 else 6) else (bif Nat.blt k 24 then 14 else 24)) else (bif Nat.blt k 60 then (bif Nat.blt k 49 then 44 else 49) else (bif Nat.blt k 62 then 60 else 62))) else (bif Nat.blt k 185 then (bif Nat.blt k 106 then (bif Nat.blt k 96 then 73 else 96) else (bif Nat.blt k 111 then 106 else 111)) else (bif Nat.blt k 294 then (bif Nat.blt k 292 then 185 else 292) else (bif Nat.blt k 298 then 294 else (bif Nat.blt k 299 then 185 else 299)))))
noncomputable abbrev nY (k : Nat) : MethodName := (mth k).1
noncomputable def wFd (a x f : Nat) : Option vw_C → Cond
  | some c => .fieldLink (nY a).cls x c.1 (c.2.1 f).2.1 (c.2.1 f).2.2.1
  | none => .initialized ""
noncomputable def wCl (a x : Nat) : Option vw_C → Cond
  | some c => .classLink (nY a).cls x c.1
  | none => .initialized ""
noncomputable def wOf : wE → Cond
  | (1, a, x, q, f) => wFd a x f.toNat vwCl[q]?
  | (2, a, x, q, _) => wCl a x vwCl[q]?
  | (3, a, x, _, _) => .classLink (nY a).cls x "[[I"
  | (4, a, x, k, _) => .methodLink (nY a).cls x (nY k)
  | (5, a, x, _, _) => .methodLink (nY a).cls x arraycopyName
  | (6, a, x, _, _) => .methodLink (nY a).cls x objectInit
  | (7, a, x, k, _) => .methodLinkNest (nY a).cls x (nY k) "SkirtsByTheDay"
  | (8, a, x, _, z) => .constant (nY a).cls x (Int32.ofInt z)
  | (9, a, x, _, z) => .constantLong (nY a).cls x (Int64.ofInt z)
  | (10, k, _, _, _) => .static (nY k)
  | (11, k, _, _, _) => .instanceMethod (nY k)
  | (12, k, _, _, _) => .selects (nY k).cls (nY k) (nY k)
  | (13, k, _, _, _) => .code (nY k) (mth k).2.1 (mth k).2.2.2.1 (mth k).2.2.2.2.1
  | (14, k, _, _, _) => .initialized (nY k).cls
  | _ => .initialized ""
noncomputable def okL : List (Option wE) → List Cond → Prop
  | [], _ => True
  | none :: r, ws => okL r ws.tail
  | some e :: r, ws => ws.head? = some (wOf e) ∧ okL r ws.tail
theorem okL_at {e : wE} : ∀ (j : Nat) (L : List (Option wE)) (ws : List Cond), okL L ws → L[j]?.join = some e → ws[j]? = some (wOf e)
  | 0, [], _, _, h => by cases h
  | _ + 1, [], _, _, h => by cases h
  | 0, none :: _, _, _, h => by cases h
  | 0, some e1 :: r, ws, hk, h => by
    have h : some e1 = some e := h
    cases h
    have := hk.1
    cases ws with
    | nil => cases this
    | cons w ws => exact this
  | j + 1, none :: r, ws, hk, h => by
    have := okL_at j r ws.tail hk h
    cases ws with
    | nil => rw [List.tail_nil] at this; cases j <;> cases this
    | cons w ws => exact this
  | j + 1, some e1 :: r, ws, hk, h => by
    have := okL_at j r ws.tail hk.2 h
    cases ws with
    | nil => rw [List.tail_nil] at this; cases j <;> cases this
    | cons w ws => exact this
theorem n_weB {x : Bool} {a b : Option wE} {a2 b2 : Option Cond} {e : wE} (h1 : a = some e → a2 = some (wOf e)) (h2 : b = some e → b2 = some (wOf e)) (h : (bif x then a else b) = some e) : (bif x then a2 else b2) = some (wOf e) := by
  cases x
  · exact h2 h
  · exact h1 h
noncomputable def n_wec0_0 : List (Option wE) := [some (12, 168, 0, 0, 0), some (12, 169, 0, 0, 0), some (12, 170, 0, 0, 0), some (12, 173, 0, 0, 0), some (12, 177, 0, 0, 0), some (12, 174, 0, 0, 0), some (12, 175, 0, 0, 0), some (12, 171, 0, 0, 0), some (12, 176, 0, 0, 0), some (12, 178, 0, 0, 0), some (12, 179, 0, 0, 0), some (12, 180, 0, 0, 0), some (12, 181, 0, 0, 0), some (12, 182, 0, 0, 0), some (12, 183, 0, 0, 0), some (12, 184, 0, 0, 0)]
theorem n_wec0_0_ok : okL n_wec0_0 lw_c0_0.1 := ⟨rfl, ⟨rfl, ⟨rfl, ⟨rfl, ⟨rfl, ⟨rfl, ⟨rfl, ⟨rfl, ⟨rfl, ⟨rfl, ⟨rfl, ⟨rfl, ⟨rfl, ⟨rfl, ⟨rfl, ⟨rfl, trivial⟩⟩⟩⟩⟩⟩⟩⟩⟩⟩⟩⟩⟩⟩⟩⟩
noncomputable def n_wec0_16 : List (Option wE) := [none, some (12, 172, 0, 0, 0), some (12, 197, 0, 0, 0), some (12, 199, 0, 0, 0), some (12, 200, 0, 0, 0), some (12, 198, 0, 0, 0), some (12, 201, 0, 0, 0), some (12, 207, 0, 0, 0), some (12, 204, 0, 0, 0), some (12, 203, 0, 0, 0), some (12, 202, 0, 0, 0), some (12, 208, 0, 0, 0), some (12, 209, 0, 0, 0), some (12, 210, 0, 0, 0), some (12, 211, 0, 0, 0), some (12, 213, 0, 0, 0)]
theorem n_wec0_16_ok : okL n_wec0_16 lw_c0_16.1 := ⟨rfl, ⟨rfl, ⟨rfl, ⟨rfl, ⟨rfl, ⟨rfl, ⟨rfl, ⟨rfl, ⟨rfl, ⟨rfl, ⟨rfl, ⟨rfl, ⟨rfl, ⟨rfl, ⟨rfl, trivial⟩⟩⟩⟩⟩⟩⟩⟩⟩⟩⟩⟩⟩⟩⟩
noncomputable def n_wec0_32 : List (Option wE) := [some (12, 190, 0, 0, 0), some (12, 188, 0, 0, 0), some (12, 216, 0, 0, 0), some (12, 215, 0, 0, 0), some (12, 214, 0, 0, 0), some (12, 191, 0, 0, 0), some (12, 217, 0, 0, 0), some (12, 230, 0, 0, 0), some (12, 229, 0, 0, 0), some (12, 224, 0, 0, 0), some (12, 226, 0, 0, 0), some (12, 225, 0, 0, 0), some (12, 233, 0, 0, 0), some (12, 189, 0, 0, 0), some (12, 235, 0, 0, 0), some (12, 239, 0, 0, 0)]
theorem n_wec0_32_ok : okL n_wec0_32 lw_c0_32.1 := ⟨rfl, ⟨rfl, ⟨rfl, ⟨rfl, ⟨rfl, ⟨rfl, ⟨rfl, ⟨rfl, ⟨rfl, ⟨rfl, ⟨rfl, ⟨rfl, ⟨rfl, ⟨rfl, ⟨rfl, ⟨rfl, trivial⟩⟩⟩⟩⟩⟩⟩⟩⟩⟩⟩⟩⟩⟩⟩⟩
noncomputable def n_wec0_48 : List (Option wE) := [some (12, 240, 0, 0, 0), some (12, 243, 0, 0, 0), some (12, 246, 0, 0, 0), some (12, 245, 0, 0, 0), some (12, 252, 0, 0, 0), some (12, 257, 0, 0, 0), some (12, 256, 0, 0, 0), some (12, 261, 0, 0, 0), some (12, 263, 0, 0, 0), some (12, 265, 0, 0, 0), some (12, 267, 0, 0, 0), some (12, 270, 0, 0, 0), some (12, 269, 0, 0, 0), some (12, 268, 0, 0, 0), some (12, 280, 0, 0, 0), some (12, 282, 0, 0, 0)]
theorem n_wec0_48_ok : okL n_wec0_48 lw_c0_48.1 := ⟨rfl, ⟨rfl, ⟨rfl, ⟨rfl, ⟨rfl, ⟨rfl, ⟨rfl, ⟨rfl, ⟨rfl, ⟨rfl, ⟨rfl, ⟨rfl, ⟨rfl, ⟨rfl, ⟨rfl, ⟨rfl, trivial⟩⟩⟩⟩⟩⟩⟩⟩⟩⟩⟩⟩⟩⟩⟩⟩
noncomputable def n_wec0_64 : List (Option wE) := [some (12, 284, 0, 0, 0), some (12, 289, 0, 0, 0)]
theorem n_wec0_64_ok : okL n_wec0_64 lw_c0_64.1 := ⟨rfl, ⟨rfl, trivial⟩⟩
noncomputable def n_wec1_0 : List (Option wE) := [none, some (14, 111, 0, 0, 0), some (14, 62, 0, 0, 0), some (14, 0, 0, 0, 0), some (14, 49, 0, 0, 0), some (14, 24, 0, 0, 0), some (14, 6, 0, 0, 0), some (14, 14, 0, 0, 0), some (14, 106, 0, 0, 0), some (14, 73, 0, 0, 0), some (14, 60, 0, 0, 0), some (14, 96, 0, 0, 0), some (14, 44, 0, 0, 0), some (14, 185, 0, 0, 0), some (14, 294, 0, 0, 0)]
theorem n_wec1_0_ok : okL n_wec1_0 lw_c1_0.1 := ⟨rfl, ⟨rfl, ⟨rfl, ⟨rfl, ⟨rfl, ⟨rfl, ⟨rfl, ⟨rfl, ⟨rfl, ⟨rfl, ⟨rfl, ⟨rfl, ⟨rfl, ⟨rfl, trivial⟩⟩⟩⟩⟩⟩⟩⟩⟩⟩⟩⟩⟩⟩
noncomputable def n_wec1_16 : List (Option wE) := [none, none, none, none, some (14, 292, 0, 0, 0), some (2, 299, 8, 11, 0), none, some (4, 299, 25, 111, 0), some (11, 111, 0, 0, 0), some (13, 111, 0, 0, 0), some (6, 111, 3, 0, 0), none, none, some (2, 111, 9, 7, 0), none, some (7, 111, 11, 62, 0)]
theorem n_wec1_16_ok : okL n_wec1_16 lw_c1_16.1 := ⟨rfl, ⟨rfl, ⟨rfl, ⟨rfl, ⟨rfl, ⟨rfl, ⟨rfl, ⟨rfl, trivial⟩⟩⟩⟩⟩⟩⟩⟩
noncomputable def n_wec1_32 : List (Option wE) := [some (11, 62, 0, 0, 0), some (13, 62, 0, 0, 0), some (6, 62, 3, 0, 0), some (1, 62, 9, 7, 0), some (1, 62, 15, 7, 1), some (1, 111, 445, 7, 1), some (1, 62, 28, 7, 2), some (1, 49, 66, 7, 3), some (1, 62, 19, 7, 3), some (1, 24, 114, 7, 3), some (1, 111, 463, 7, 3)]
theorem n_wec1_32_ok : okL n_wec1_32 lw_c1_32.1 := ⟨rfl, ⟨rfl, ⟨rfl, ⟨rfl, ⟨rfl, ⟨rfl, ⟨rfl, ⟨rfl, ⟨rfl, ⟨rfl, ⟨rfl, trivial⟩⟩⟩⟩⟩⟩⟩⟩⟩⟩⟩
noncomputable def n_wec1_48 : List (Option wE) := [none, none, none, none, none, some (2, 111, 16, 0, 0), none, some (7, 111, 18, 0, 0), some (11, 0, 0, 0, 0), some (13, 0, 0, 0, 0), some (6, 0, 3, 0, 0), some (1, 0, 9, 0, 0), some (1, 0, 15, 0, 1), some (1, 0, 18, 0, 2), some (1, 0, 21, 0, 3), some (1, 0, 24, 0, 4)]
theorem n_wec1_48_ok : okL n_wec1_48 lw_c1_48.1 := ⟨rfl, ⟨rfl, ⟨rfl, ⟨rfl, ⟨rfl, ⟨rfl, ⟨rfl, ⟨rfl, ⟨rfl, ⟨rfl, trivial⟩⟩⟩⟩⟩⟩⟩⟩⟩⟩
noncomputable def n_wec1_64 : List (Option wE) := [some (1, 111, 436, 0, 4), none, none, none, none, none, none, none, none, none, none, none, none, some (2, 111, 23, 5, 0), none, some (7, 111, 25, 49, 0)]
theorem n_wec1_64_ok : okL n_wec1_64 lw_c1_64.1 := ⟨rfl, ⟨rfl, ⟨rfl, trivial⟩⟩⟩
noncomputable def n_wec1_80 : List (Option wE) := [some (11, 49, 0, 0, 0), some (13, 49, 0, 0, 0), some (6, 49, 3, 0, 0), some (1, 49, 9, 5, 0), some (1, 49, 15, 5, 1), some (1, 49, 18, 5, 2), some (1, 49, 21, 5, 3), some (1, 49, 56, 5, 4), some (1, 49, 24, 5, 5), some (1, 49, 27, 5, 6), some (1, 49, 30, 5, 7), some (1, 49, 33, 5, 8)]
theorem n_wec1_80_ok : okL n_wec1_80 lw_c1_80.1 := ⟨rfl, ⟨rfl, ⟨rfl, ⟨rfl, ⟨rfl, ⟨rfl, ⟨rfl, ⟨rfl, ⟨rfl, ⟨rfl, ⟨rfl, ⟨rfl, trivial⟩⟩⟩⟩⟩⟩⟩⟩⟩⟩⟩⟩
noncomputable def n_wec1_96 : List (Option wE) := [none, none, none, none, none, none, none, none, none, none, none, none, none, none, none, some (2, 111, 30, 3, 0)]
theorem n_wec1_96_ok : okL n_wec1_96 lw_c1_96.1 := ⟨rfl, trivial⟩
noncomputable def n_wec1_112 : List (Option wE) := [none, some (4, 111, 32, 24, 0), some (11, 24, 0, 0, 0), some (13, 24, 0, 0, 0), some (6, 24, 3, 0, 0), some (2, 24, 33, 1, 0), none, some (7, 24, 35, 6, 0), some (11, 6, 0, 0, 0), some (13, 6, 0, 0, 0), some (6, 6, 3, 0, 0), some (1, 6, 9, 1, 0), some (1, 24, 132, 1, 0), some (1, 111, 258, 1, 0), some (1, 6, 15, 1, 1), some (1, 6, 18, 1, 2)]
theorem n_wec1_112_ok : okL n_wec1_112 lw_c1_112.1 := ⟨rfl, ⟨rfl, ⟨rfl, ⟨rfl, ⟨rfl, ⟨rfl, ⟨rfl, ⟨rfl, ⟨rfl, ⟨rfl, ⟨rfl, ⟨rfl, ⟨rfl, ⟨rfl, trivial⟩⟩⟩⟩⟩⟩⟩⟩⟩⟩⟩⟩⟩⟩
noncomputable def n_wec1_128 : List (Option wE) := [some (1, 24, 135, 1, 2), some (1, 111, 438, 1, 2), some (1, 6, 48, 1, 3), some (1, 111, 273, 1, 3), some (1, 6, 36, 1, 4), some (1, 111, 270, 1, 4)]
theorem n_wec1_128_ok : okL n_wec1_128 lw_c1_128.1 := ⟨rfl, ⟨rfl, ⟨rfl, ⟨rfl, ⟨rfl, ⟨rfl, trivial⟩⟩⟩⟩⟩⟩
noncomputable def n_wec1_144 : List (Option wE) := [none, some (1, 24, 40, 3, 0), some (1, 14, 46, 3, 0), some (1, 111, 326, 3, 0), some (1, 24, 44, 3, 1), some (1, 14, 49, 3, 1), some (1, 111, 183, 3, 1), some (1, 73, 78, 3, 1), some (1, 24, 9, 3, 2), some (1, 111, 126, 3, 2), some (1, 24, 15, 3, 3), some (1, 111, 130, 3, 3), some (1, 24, 18, 3, 4), some (1, 111, 133, 3, 4), some (1, 24, 21, 3, 5), some (1, 111, 149, 3, 5)]
theorem n_wec1_144_ok : okL n_wec1_144 lw_c1_144.1 := ⟨rfl, ⟨rfl, ⟨rfl, ⟨rfl, ⟨rfl, ⟨rfl, ⟨rfl, ⟨rfl, ⟨rfl, ⟨rfl, ⟨rfl, ⟨rfl, ⟨rfl, ⟨rfl, ⟨rfl, trivial⟩⟩⟩⟩⟩⟩⟩⟩⟩⟩⟩⟩⟩⟩⟩
noncomputable def n_wec1_160 : List (Option wE) := [some (1, 24, 24, 3, 6), some (1, 111, 152, 3, 6), some (1, 24, 27, 3, 7), some (1, 111, 158, 3, 7), some (1, 24, 30, 3, 8), some (1, 111, 180, 3, 8), some (1, 111, 37, 3, 9), some (1, 24, 36, 3, 9), some (1, 24, 87, 3, 10), some (1, 111, 264, 3, 10), some (1, 24, 138, 3, 11), some (1, 111, 329, 3, 11), some (1, 24, 78, 3, 12), some (1, 73, 72, 3, 12), some (1, 111, 346, 3, 12), some (1, 24, 81, 3, 13)]
theorem n_wec1_160_ok : okL n_wec1_160 lw_c1_160.1 := ⟨rfl, ⟨rfl, ⟨rfl, ⟨rfl, ⟨rfl, ⟨rfl, ⟨rfl, ⟨rfl, ⟨rfl, ⟨rfl, ⟨rfl, ⟨rfl, ⟨rfl, ⟨rfl, ⟨rfl, ⟨rfl, trivial⟩⟩⟩⟩⟩⟩⟩⟩⟩⟩⟩⟩⟩⟩⟩⟩
noncomputable def n_wec1_176 : List (Option wE) := [some (1, 73, 75, 3, 13), some (1, 111, 276, 3, 13), some (1, 24, 84, 3, 14), some (1, 111, 473, 3, 14)]
theorem n_wec1_176_ok : okL n_wec1_176 lw_c1_176.1 := ⟨rfl, ⟨rfl, ⟨rfl, ⟨rfl, trivial⟩⟩⟩⟩
noncomputable def n_wec1_192 : List (Option wE) := []
theorem n_wec1_192_ok : okL n_wec1_192 lw_c1_192.1 := trivial
noncomputable def n_wec1_208 : List (Option wE) := [none, none, none, some (2, 111, 42, 2, 0), none, some (4, 111, 44, 14, 0), some (11, 14, 0, 0, 0), some (13, 14, 0, 0, 0), some (6, 14, 5, 0, 0), some (3, 14, 13, 0, 0), none, some (1, 14, 15, 2, 0), some (1, 14, 18, 2, 1), some (1, 14, 21, 2, 2), some (1, 14, 25, 2, 3), some (1, 14, 28, 2, 4)]
theorem n_wec1_208_ok : okL n_wec1_208 lw_c1_208.1 := ⟨rfl, ⟨rfl, ⟨rfl, ⟨rfl, ⟨rfl, ⟨rfl, ⟨rfl, ⟨rfl, ⟨rfl, ⟨rfl, ⟨rfl, trivial⟩⟩⟩⟩⟩⟩⟩⟩⟩⟩⟩
noncomputable def n_wec1_224 : List (Option wE) := [some (1, 14, 32, 2, 5), some (1, 111, 242, 2, 5), none, none, none, none, none, none, none, none, none, none, none, none, none, some (2, 111, 49, 10, 0)]
theorem n_wec1_224_ok : okL n_wec1_224 lw_c1_224.1 := ⟨rfl, ⟨rfl, ⟨rfl, trivial⟩⟩⟩
noncomputable def n_wec2_0 : List (Option wE) := [none, some (7, 111, 51, 106, 0), some (11, 106, 0, 0, 0), some (13, 106, 0, 0, 0), some (6, 106, 3, 0, 0), some (1, 106, 11, 10, 0), some (1, 111, 223, 10, 0), some (1, 106, 15, 10, 1), some (1, 111, 226, 10, 1), some (1, 106, 18, 10, 2), some (1, 111, 229, 10, 2)]
theorem n_wec2_0_ok : okL n_wec2_0 lw_c2_0.1 := ⟨rfl, ⟨rfl, ⟨rfl, ⟨rfl, ⟨rfl, ⟨rfl, ⟨rfl, ⟨rfl, ⟨rfl, ⟨rfl, trivial⟩⟩⟩⟩⟩⟩⟩⟩⟩⟩
noncomputable def n_wec2_16 : List (Option wE) := [none, none, some (2, 111, 56, 8, 0), none, some (7, 111, 58, 73, 0), some (11, 73, 0, 0, 0), some (13, 73, 0, 0, 0), some (6, 73, 3, 0, 0), some (1, 73, 9, 8, 0), some (1, 111, 298, 8, 0), some (1, 73, 30, 8, 1), some (1, 111, 367, 8, 1), some (1, 73, 15, 8, 2), some (1, 111, 309, 8, 2), some (1, 73, 18, 8, 3), some (1, 73, 21, 8, 4)]
theorem n_wec2_16_ok : okL n_wec2_16 lw_c2_16.1 := ⟨rfl, ⟨rfl, ⟨rfl, ⟨rfl, ⟨rfl, ⟨rfl, ⟨rfl, ⟨rfl, ⟨rfl, ⟨rfl, ⟨rfl, ⟨rfl, ⟨rfl, trivial⟩⟩⟩⟩⟩⟩⟩⟩⟩⟩⟩⟩⟩
noncomputable def n_wec2_32 : List (Option wE) := [some (1, 73, 61, 8, 5), some (1, 111, 336, 8, 5), some (1, 73, 58, 8, 6), some (1, 111, 339, 8, 6), some (1, 73, 24, 8, 7), some (1, 73, 27, 8, 8), some (1, 111, 364, 8, 8)]
theorem n_wec2_32_ok : okL n_wec2_32 lw_c2_32.1 := ⟨rfl, ⟨rfl, ⟨rfl, ⟨rfl, ⟨rfl, ⟨rfl, ⟨rfl, trivial⟩⟩⟩⟩⟩⟩⟩
noncomputable def n_wec2_48 : List (Option wE) := [none, none, none, none, none, none, none, none, none, none, some (2, 111, 63, 6, 0), none, some (7, 111, 65, 60, 0), some (11, 60, 0, 0, 0), some (13, 60, 0, 0, 0), some (6, 60, 3, 0, 0)]
theorem n_wec2_48_ok : okL n_wec2_48 lw_c2_48.1 := ⟨rfl, ⟨rfl, ⟨rfl, ⟨rfl, ⟨rfl, trivial⟩⟩⟩⟩⟩
noncomputable def n_wec2_64 : List (Option wE) := [some (1, 60, 11, 6, 0), some (1, 111, 485, 6, 0), some (1, 60, 15, 6, 1), some (1, 111, 488, 6, 1), some (1, 60, 18, 6, 2), some (1, 111, 489, 6, 2), some (1, 60, 21, 6, 3), some (1, 111, 388, 6, 3), some (1, 60, 24, 6, 4), some (1, 111, 387, 6, 4)]
theorem n_wec2_64_ok : okL n_wec2_64 lw_c2_64.1 := ⟨rfl, ⟨rfl, ⟨rfl, ⟨rfl, ⟨rfl, ⟨rfl, ⟨rfl, ⟨rfl, ⟨rfl, ⟨rfl, trivial⟩⟩⟩⟩⟩⟩⟩⟩⟩⟩
noncomputable def n_wec2_80 : List (Option wE) := [none, none, none, none, none, some (2, 111, 70, 9, 0), none, some (7, 111, 72, 96, 0), some (11, 96, 0, 0, 0), some (13, 96, 0, 0, 0), some (6, 96, 3, 0, 0), some (1, 96, 11, 9, 0), some (1, 96, 15, 9, 1), some (1, 96, 34, 9, 2), some (1, 111, 407, 9, 2), some (1, 96, 18, 9, 3)]
theorem n_wec2_80_ok : okL n_wec2_80 lw_c2_80.1 := ⟨rfl, ⟨rfl, ⟨rfl, ⟨rfl, ⟨rfl, ⟨rfl, ⟨rfl, ⟨rfl, ⟨rfl, ⟨rfl, trivial⟩⟩⟩⟩⟩⟩⟩⟩⟩⟩
noncomputable def n_wec2_96 : List (Option wE) := [some (1, 111, 413, 9, 3), some (1, 96, 21, 9, 4), some (1, 96, 24, 9, 5), some (1, 96, 27, 9, 6), some (1, 96, 30, 9, 7)]
theorem n_wec2_96_ok : okL n_wec2_96 lw_c2_96.1 := ⟨rfl, ⟨rfl, ⟨rfl, ⟨rfl, ⟨rfl, trivial⟩⟩⟩⟩⟩
noncomputable def n_wec2_112 : List (Option wE) := [none, none, none, none, none, none, none, some (2, 111, 77, 4, 0), none, some (7, 111, 79, 44, 0), some (11, 44, 0, 0, 0), some (13, 44, 0, 0, 0), some (6, 44, 3, 0, 0), some (1, 44, 9, 4, 0), some (1, 111, 451, 4, 0), some (1, 44, 15, 4, 1)]
theorem n_wec2_112_ok : okL n_wec2_112 lw_c2_112.1 := ⟨rfl, ⟨rfl, ⟨rfl, ⟨rfl, ⟨rfl, ⟨rfl, ⟨rfl, ⟨rfl, trivial⟩⟩⟩⟩⟩⟩⟩⟩
noncomputable def n_wec2_128 : List (Option wE) := [some (1, 111, 444, 4, 1), none, none, none, none, none, some (1, 111, 12, 11, 0), some (1, 111, 19, 11, 1), some (1, 111, 26, 11, 2), some (1, 111, 33, 11, 3), some (1, 111, 41, 11, 4), some (1, 111, 45, 11, 5), some (1, 111, 52, 11, 6), some (1, 111, 59, 11, 7), some (1, 111, 66, 11, 8), some (1, 111, 73, 11, 9)]
theorem n_wec2_128_ok : okL n_wec2_128 lw_c2_128.1 := ⟨rfl, ⟨rfl, ⟨rfl, ⟨rfl, ⟨rfl, ⟨rfl, ⟨rfl, ⟨rfl, ⟨rfl, ⟨rfl, ⟨rfl, trivial⟩⟩⟩⟩⟩⟩⟩⟩⟩⟩⟩
noncomputable def n_wec2_144 : List (Option wE) := [some (1, 111, 80, 11, 10)]
theorem n_wec2_144_ok : okL n_wec2_144 lw_c2_144.1 := ⟨rfl, trivial⟩
noncomputable def n_wec2_160 : List (Option wE) := [none, none, none, none, none, none, none, none, some (4, 299, 29, 112, 0), some (11, 112, 0, 0, 0), some (12, 112, 0, 0, 0), some (13, 112, 0, 0, 0), some (4, 111, 84, 63, 0), some (11, 63, 0, 0, 0), some (12, 63, 0, 0, 0), some (13, 63, 0, 0, 0)]
theorem n_wec2_160_ok : okL n_wec2_160 lw_c2_160.1 := ⟨rfl, ⟨rfl, ⟨rfl, ⟨rfl, ⟨rfl, ⟨rfl, ⟨rfl, ⟨rfl, trivial⟩⟩⟩⟩⟩⟩⟩⟩
noncomputable def n_wec2_176 : List (Option wE) := [some (4, 299, 33, 113, 0), some (11, 113, 0, 0, 0), some (12, 113, 0, 0, 0), some (13, 113, 0, 0, 0), some (4, 111, 88, 64, 0), some (11, 64, 0, 0, 0), some (12, 64, 0, 0, 0), some (13, 64, 0, 0, 0), some (4, 299, 38, 114, 0), some (11, 114, 0, 0, 0), some (12, 114, 0, 0, 0), some (13, 114, 0, 0, 0), some (4, 111, 92, 66, 0), some (11, 66, 0, 0, 0), some (12, 66, 0, 0, 0), some (13, 66, 0, 0, 0)]
theorem n_wec2_176_ok : okL n_wec2_176 lw_c2_176.1 := ⟨rfl, ⟨rfl, ⟨rfl, ⟨rfl, ⟨rfl, ⟨rfl, ⟨rfl, ⟨rfl, ⟨rfl, ⟨rfl, ⟨rfl, ⟨rfl, ⟨rfl, ⟨rfl, ⟨rfl, ⟨rfl, trivial⟩⟩⟩⟩⟩⟩⟩⟩⟩⟩⟩⟩⟩⟩⟩⟩
noncomputable def n_wec2_192 : List (Option wE) := [some (4, 62, 22, 294, 0), some (10, 294, 0, 0, 0), some (13, 294, 0, 0, 0), some (4, 111, 96, 2, 0), some (11, 2, 0, 0, 0), some (12, 2, 0, 0, 0), some (13, 2, 0, 0, 0), some (4, 0, 28, 3, 0), some (11, 3, 0, 0, 0), some (12, 3, 0, 0, 0), some (13, 3, 0, 0, 0), some (4, 0, 46, 71, 0), some (11, 71, 0, 0, 0), some (12, 71, 0, 0, 0), some (13, 71, 0, 0, 0), some (4, 62, 31, 69, 0)]
theorem n_wec2_192_ok : okL n_wec2_192 lw_c2_192.1 := ⟨rfl, ⟨rfl, ⟨rfl, ⟨rfl, ⟨rfl, ⟨rfl, ⟨rfl, ⟨rfl, ⟨rfl, ⟨rfl, ⟨rfl, ⟨rfl, ⟨rfl, ⟨rfl, ⟨rfl, ⟨rfl, trivial⟩⟩⟩⟩⟩⟩⟩⟩⟩⟩⟩⟩⟩⟩⟩⟩
noncomputable def n_wec2_208 : List (Option wE) := [some (11, 69, 0, 0, 0), some (12, 69, 0, 0, 0), some (13, 69, 0, 0, 0), some (4, 0, 32, 68, 0), some (11, 68, 0, 0, 0), some (12, 68, 0, 0, 0), some (13, 68, 0, 0, 0), some (4, 0, 38, 4, 0), some (11, 4, 0, 0, 0), some (12, 4, 0, 0, 0), some (13, 4, 0, 0, 0), some (5, 0, 50, 0, 0), none, none, some (4, 0, 42, 70, 0), some (11, 70, 0, 0, 0)]
theorem n_wec2_208_ok : okL n_wec2_208 lw_c2_208.1 := ⟨rfl, ⟨rfl, ⟨rfl, ⟨rfl, ⟨rfl, ⟨rfl, ⟨rfl, ⟨rfl, ⟨rfl, ⟨rfl, ⟨rfl, ⟨rfl, ⟨rfl, ⟨rfl, trivial⟩⟩⟩⟩⟩⟩⟩⟩⟩⟩⟩⟩⟩⟩
noncomputable def n_wec2_224 : List (Option wE) := [some (12, 70, 0, 0, 0), some (13, 70, 0, 0, 0), some (4, 111, 100, 168, 0), none, some (11, 168, 0, 0, 0), some (13, 168, 0, 0, 0), some (4, 299, 43, 115, 0), some (11, 115, 0, 0, 0), some (12, 115, 0, 0, 0), some (13, 115, 0, 0, 0), some (4, 111, 103, 65, 0), some (11, 65, 0, 0, 0), some (12, 65, 0, 0, 0), some (13, 65, 0, 0, 0), some (4, 111, 107, 39, 0), some (11, 39, 0, 0, 0)]
theorem n_wec2_224_ok : okL n_wec2_224 lw_c2_224.1 := ⟨rfl, ⟨rfl, ⟨rfl, ⟨rfl, ⟨rfl, ⟨rfl, ⟨rfl, ⟨rfl, ⟨rfl, ⟨rfl, ⟨rfl, ⟨rfl, ⟨rfl, ⟨rfl, ⟨rfl, trivial⟩⟩⟩⟩⟩⟩⟩⟩⟩⟩⟩⟩⟩⟩⟩
noncomputable def n_wec3_0 : List (Option wE) := [some (12, 39, 0, 0, 0), some (13, 39, 0, 0, 0), some (4, 24, 97, 70, 0), some (4, 24, 103, 40, 0), some (11, 40, 0, 0, 0), some (12, 40, 0, 0, 0), some (13, 40, 0, 0, 0), some (4, 24, 117, 72, 0), some (11, 72, 0, 0, 0), some (12, 72, 0, 0, 0), some (13, 72, 0, 0, 0), some (4, 62, 35, 71, 0), some (4, 24, 120, 67, 0), some (11, 67, 0, 0, 0), some (12, 67, 0, 0, 0), some (13, 67, 0, 0, 0)]
theorem n_wec3_0_ok : okL n_wec3_0 lw_c3_0.1 := ⟨rfl, ⟨rfl, ⟨rfl, ⟨rfl, ⟨rfl, ⟨rfl, ⟨rfl, ⟨rfl, ⟨rfl, ⟨rfl, ⟨rfl, ⟨rfl, ⟨rfl, ⟨rfl, ⟨rfl, ⟨rfl, trivial⟩⟩⟩⟩⟩⟩⟩⟩⟩⟩⟩⟩⟩⟩⟩⟩
noncomputable def n_wec3_16 : List (Option wE) := [some (4, 24, 123, 71, 0), some (4, 24, 107, 41, 0), some (11, 41, 0, 0, 0), some (12, 41, 0, 0, 0), some (13, 41, 0, 0, 0), some (4, 24, 110, 68, 0), some (4, 111, 110, 20, 0), some (11, 20, 0, 0, 0), some (12, 20, 0, 0, 0), some (13, 20, 0, 0, 0), some (4, 299, 47, 116, 0), some (11, 116, 0, 0, 0), some (12, 116, 0, 0, 0), some (13, 116, 0, 0, 0), some (4, 111, 113, 50, 0), some (11, 50, 0, 0, 0)]
theorem n_wec3_16_ok : okL n_wec3_16 lw_c3_16.1 := ⟨rfl, ⟨rfl, ⟨rfl, ⟨rfl, ⟨rfl, ⟨rfl, ⟨rfl, ⟨rfl, ⟨rfl, ⟨rfl, ⟨rfl, ⟨rfl, ⟨rfl, ⟨rfl, ⟨rfl, ⟨rfl, trivial⟩⟩⟩⟩⟩⟩⟩⟩⟩⟩⟩⟩⟩⟩⟩⟩
noncomputable def n_wec3_32 : List (Option wE) := [some (12, 50, 0, 0, 0), some (13, 50, 0, 0, 0), some (4, 49, 37, 65, 0), some (4, 49, 43, 52, 0), some (11, 52, 0, 0, 0), some (12, 52, 0, 0, 0), some (13, 52, 0, 0, 0), some (4, 49, 59, 53, 0), some (11, 53, 0, 0, 0), some (12, 53, 0, 0, 0), some (13, 53, 0, 0, 0), some (4, 49, 73, 54, 0), some (11, 54, 0, 0, 0), some (12, 54, 0, 0, 0), some (13, 54, 0, 0, 0), some (4, 49, 76, 55, 0)]
theorem n_wec3_32_ok : okL n_wec3_32 lw_c3_32.1 := ⟨rfl, ⟨rfl, ⟨rfl, ⟨rfl, ⟨rfl, ⟨rfl, ⟨rfl, ⟨rfl, ⟨rfl, ⟨rfl, ⟨rfl, ⟨rfl, ⟨rfl, ⟨rfl, ⟨rfl, ⟨rfl, trivial⟩⟩⟩⟩⟩⟩⟩⟩⟩⟩⟩⟩⟩⟩⟩⟩
noncomputable def n_wec3_48 : List (Option wE) := [some (11, 55, 0, 0, 0), some (12, 55, 0, 0, 0), some (13, 55, 0, 0, 0), some (4, 49, 79, 70, 0), some (4, 49, 83, 56, 0), some (11, 56, 0, 0, 0), some (12, 56, 0, 0, 0), some (13, 56, 0, 0, 0), some (4, 49, 62, 69, 0), some (4, 49, 86, 72, 0), some (4, 49, 69, 51, 0), some (11, 51, 0, 0, 0), some (12, 51, 0, 0, 0), some (13, 51, 0, 0, 0), some (4, 49, 90, 57, 0), some (11, 57, 0, 0, 0)]
theorem n_wec3_48_ok : okL n_wec3_48 lw_c3_48.1 := ⟨rfl, ⟨rfl, ⟨rfl, ⟨rfl, ⟨rfl, ⟨rfl, ⟨rfl, ⟨rfl, ⟨rfl, ⟨rfl, ⟨rfl, ⟨rfl, ⟨rfl, ⟨rfl, ⟨rfl, ⟨rfl, trivial⟩⟩⟩⟩⟩⟩⟩⟩⟩⟩⟩⟩⟩⟩⟩⟩
noncomputable def n_wec3_64 : List (Option wE) := [some (12, 57, 0, 0, 0), some (13, 57, 0, 0, 0), some (4, 49, 47, 68, 0), some (5, 49, 50, 0, 0), some (4, 299, 60, 119, 0), some (11, 119, 0, 0, 0), some (12, 119, 0, 0, 0), some (13, 119, 0, 0, 0), some (4, 111, 166, 164, 0), some (10, 164, 0, 0, 0), some (13, 164, 0, 0, 0), some (4, 111, 169, 1, 0), some (11, 1, 0, 0, 0), some (12, 1, 0, 0, 0), some (13, 1, 0, 0, 0), some (4, 299, 64, 120, 0)]
theorem n_wec3_64_ok : okL n_wec3_64 lw_c3_64.1 := ⟨rfl, ⟨rfl, ⟨rfl, ⟨rfl, ⟨rfl, ⟨rfl, ⟨rfl, ⟨rfl, ⟨rfl, ⟨rfl, ⟨rfl, ⟨rfl, ⟨rfl, ⟨rfl, ⟨rfl, ⟨rfl, trivial⟩⟩⟩⟩⟩⟩⟩⟩⟩⟩⟩⟩⟩⟩⟩⟩
noncomputable def n_wec3_80 : List (Option wE) := [some (11, 120, 0, 0, 0), some (12, 120, 0, 0, 0), some (13, 120, 0, 0, 0), some (4, 111, 116, 25, 0), some (11, 25, 0, 0, 0), some (12, 25, 0, 0, 0), some (13, 25, 0, 0, 0), some (4, 111, 173, 163, 0), some (10, 163, 0, 0, 0), some (13, 163, 0, 0, 0), some (4, 111, 176, 169, 0), none, some (11, 169, 0, 0, 0), some (13, 169, 0, 0, 0), some (4, 111, 466, 170, 0)]
theorem n_wec3_80_ok : okL n_wec3_80 lw_c3_80.1 := ⟨rfl, ⟨rfl, ⟨rfl, ⟨rfl, ⟨rfl, ⟨rfl, ⟨rfl, ⟨rfl, ⟨rfl, ⟨rfl, ⟨rfl, ⟨rfl, ⟨rfl, ⟨rfl, trivial⟩⟩⟩⟩⟩⟩⟩⟩⟩⟩⟩⟩⟩⟩
noncomputable def n_wec3_96 : List (Option wE) := [some (11, 170, 0, 0, 0), some (13, 170, 0, 0, 0), some (4, 111, 469, 58, 0), some (11, 58, 0, 0, 0), some (12, 58, 0, 0, 0), some (13, 58, 0, 0, 0), some (4, 49, 93, 59, 0), some (10, 59, 0, 0, 0), some (13, 59, 0, 0, 0), some (4, 111, 460, 166, 0), some (10, 166, 0, 0, 0), some (13, 166, 0, 0, 0), some (4, 111, 454, 294, 0), some (4, 111, 457, 295, 0), some (10, 295, 0, 0, 0), some (13, 295, 0, 0, 0)]
theorem n_wec3_96_ok : okL n_wec3_96 lw_c3_96.1 := ⟨rfl, ⟨rfl, ⟨rfl, ⟨rfl, ⟨rfl, ⟨rfl, ⟨rfl, ⟨rfl, ⟨rfl, ⟨rfl, ⟨rfl, ⟨rfl, ⟨rfl, ⟨rfl, ⟨rfl, ⟨rfl, trivial⟩⟩⟩⟩⟩⟩⟩⟩⟩⟩⟩⟩⟩⟩⟩⟩
noncomputable def n_wec3_112 : List (Option wE) := [some (4, 299, 69, 121, 0), some (11, 121, 0, 0, 0), some (12, 121, 0, 0, 0), some (13, 121, 0, 0, 0), some (4, 299, 73, 122, 0), some (11, 122, 0, 0, 0), some (12, 122, 0, 0, 0), some (13, 122, 0, 0, 0), some (4, 111, 187, 167, 0), some (10, 167, 0, 0, 0), some (13, 167, 0, 0, 0), some (4, 299, 78, 123, 0), some (11, 123, 0, 0, 0), some (12, 123, 0, 0, 0), some (13, 123, 0, 0, 0), some (4, 111, 190, 30, 0)]
theorem n_wec3_112_ok : okL n_wec3_112 lw_c3_112.1 := ⟨rfl, ⟨rfl, ⟨rfl, ⟨rfl, ⟨rfl, ⟨rfl, ⟨rfl, ⟨rfl, ⟨rfl, ⟨rfl, ⟨rfl, ⟨rfl, ⟨rfl, ⟨rfl, ⟨rfl, ⟨rfl, trivial⟩⟩⟩⟩⟩⟩⟩⟩⟩⟩⟩⟩⟩⟩⟩⟩
noncomputable def n_wec3_128 : List (Option wE) := [some (11, 30, 0, 0, 0), some (12, 30, 0, 0, 0), some (13, 30, 0, 0, 0), some (4, 24, 47, 25, 0), some (4, 24, 51, 26, 0), some (11, 26, 0, 0, 0), some (12, 26, 0, 0, 0), some (13, 26, 0, 0, 0), some (4, 24, 54, 29, 0), some (11, 29, 0, 0, 0), some (12, 29, 0, 0, 0), some (13, 29, 0, 0, 0), some (4, 111, 193, 173, 0), none, some (11, 173, 0, 0, 0), some (13, 173, 0, 0, 0)]
theorem n_wec3_128_ok : okL n_wec3_128 lw_c3_128.1 := ⟨rfl, ⟨rfl, ⟨rfl, ⟨rfl, ⟨rfl, ⟨rfl, ⟨rfl, ⟨rfl, ⟨rfl, ⟨rfl, ⟨rfl, ⟨rfl, ⟨rfl, ⟨rfl, ⟨rfl, trivial⟩⟩⟩⟩⟩⟩⟩⟩⟩⟩⟩⟩⟩⟩⟩
noncomputable def n_wec3_144 : List (Option wE) := [some (4, 111, 219, 16, 0), some (11, 16, 0, 0, 0), some (12, 16, 0, 0, 0), some (13, 16, 0, 0, 0), some (4, 14, 35, 15, 0), some (11, 15, 0, 0, 0), some (12, 15, 0, 0, 0), some (13, 15, 0, 0, 0), some (4, 14, 39, 42, 0), some (11, 42, 0, 0, 0), some (12, 42, 0, 0, 0), some (13, 42, 0, 0, 0), some (5, 24, 126, 0, 0), some (4, 111, 236, 17, 0), some (11, 17, 0, 0, 0), some (12, 17, 0, 0, 0)]
theorem n_wec3_144_ok : okL n_wec3_144 lw_c3_144.1 := ⟨rfl, ⟨rfl, ⟨rfl, ⟨rfl, ⟨rfl, ⟨rfl, ⟨rfl, ⟨rfl, ⟨rfl, ⟨rfl, ⟨rfl, ⟨rfl, ⟨rfl, ⟨rfl, ⟨rfl, ⟨rfl, trivial⟩⟩⟩⟩⟩⟩⟩⟩⟩⟩⟩⟩⟩⟩⟩⟩
noncomputable def n_wec3_160 : List (Option wE) := [some (13, 17, 0, 0, 0), some (4, 299, 82, 124, 0), some (11, 124, 0, 0, 0), some (12, 124, 0, 0, 0), some (13, 124, 0, 0, 0), some (4, 299, 86, 125, 0), some (11, 125, 0, 0, 0), some (12, 125, 0, 0, 0), some (13, 125, 0, 0, 0), some (4, 111, 144, 26, 0), some (4, 111, 196, 165, 0), some (10, 165, 0, 0, 0), some (13, 165, 0, 0, 0), some (4, 111, 199, 35, 0), some (11, 35, 0, 0, 0), some (12, 35, 0, 0, 0)]
theorem n_wec3_160_ok : okL n_wec3_160 lw_c3_160.1 := ⟨rfl, ⟨rfl, ⟨rfl, ⟨rfl, ⟨rfl, ⟨rfl, ⟨rfl, ⟨rfl, ⟨rfl, ⟨rfl, ⟨rfl, ⟨rfl, ⟨rfl, ⟨rfl, ⟨rfl, ⟨rfl, trivial⟩⟩⟩⟩⟩⟩⟩⟩⟩⟩⟩⟩⟩⟩⟩⟩
noncomputable def n_wec3_176 : List (Option wE) := [some (13, 35, 0, 0, 0), some (4, 111, 202, 38, 0), some (11, 38, 0, 0, 0), some (12, 38, 0, 0, 0), some (13, 38, 0, 0, 0), some (4, 24, 62, 28, 0), some (11, 28, 0, 0, 0), some (12, 28, 0, 0, 0), some (13, 28, 0, 0, 0), some (4, 24, 71, 32, 0), some (11, 32, 0, 0, 0), some (12, 32, 0, 0, 0), some (13, 32, 0, 0, 0), some (4, 24, 58, 27, 0), some (11, 27, 0, 0, 0), some (12, 27, 0, 0, 0)]
theorem n_wec3_176_ok : okL n_wec3_176 lw_c3_176.1 := ⟨rfl, ⟨rfl, ⟨rfl, ⟨rfl, ⟨rfl, ⟨rfl, ⟨rfl, ⟨rfl, ⟨rfl, ⟨rfl, ⟨rfl, ⟨rfl, ⟨rfl, ⟨rfl, ⟨rfl, ⟨rfl, trivial⟩⟩⟩⟩⟩⟩⟩⟩⟩⟩⟩⟩⟩⟩⟩⟩
noncomputable def n_wec3_192 : List (Option wE) := [some (13, 27, 0, 0, 0), some (4, 24, 93, 9, 0), some (11, 9, 0, 0, 0), some (12, 9, 0, 0, 0), some (13, 9, 0, 0, 0), some (4, 111, 206, 177, 0), none, some (11, 177, 0, 0, 0), some (13, 177, 0, 0, 0), some (4, 111, 301, 47, 0), some (11, 47, 0, 0, 0), some (12, 47, 0, 0, 0), some (13, 47, 0, 0, 0), some (4, 111, 209, 37, 0), some (11, 37, 0, 0, 0), some (12, 37, 0, 0, 0)]
theorem n_wec3_192_ok : okL n_wec3_192 lw_c3_192.1 := ⟨rfl, ⟨rfl, ⟨rfl, ⟨rfl, ⟨rfl, ⟨rfl, ⟨rfl, ⟨rfl, ⟨rfl, ⟨rfl, ⟨rfl, ⟨rfl, ⟨rfl, ⟨rfl, ⟨rfl, trivial⟩⟩⟩⟩⟩⟩⟩⟩⟩⟩⟩⟩⟩⟩⟩
noncomputable def n_wec3_208 : List (Option wE) := [some (13, 37, 0, 0, 0), some (4, 24, 90, 36, 0), some (11, 36, 0, 0, 0), some (12, 36, 0, 0, 0), some (13, 36, 0, 0, 0), some (4, 24, 75, 33, 0), some (11, 33, 0, 0, 0), some (12, 33, 0, 0, 0), some (13, 33, 0, 0, 0), some (4, 299, 90, 126, 0), some (11, 126, 0, 0, 0), some (12, 126, 0, 0, 0), some (13, 126, 0, 0, 0), some (4, 111, 213, 174, 0), none, some (11, 174, 0, 0, 0)]
theorem n_wec3_208_ok : okL n_wec3_208 lw_c3_208.1 := ⟨rfl, ⟨rfl, ⟨rfl, ⟨rfl, ⟨rfl, ⟨rfl, ⟨rfl, ⟨rfl, ⟨rfl, ⟨rfl, ⟨rfl, ⟨rfl, ⟨rfl, ⟨rfl, ⟨rfl, trivial⟩⟩⟩⟩⟩⟩⟩⟩⟩⟩⟩⟩⟩⟩⟩
noncomputable def n_wec3_224 : List (Option wE) := [some (13, 174, 0, 0, 0), some (4, 111, 279, 175, 0), none, some (11, 175, 0, 0, 0), some (13, 175, 0, 0, 0), some (4, 111, 136, 171, 0), none, some (11, 171, 0, 0, 0), some (13, 171, 0, 0, 0), some (4, 299, 94, 127, 0), some (11, 127, 0, 0, 0), some (12, 127, 0, 0, 0), some (13, 127, 0, 0, 0), some (4, 299, 98, 128, 0), some (11, 128, 0, 0, 0), some (12, 128, 0, 0, 0)]
theorem n_wec3_224_ok : okL n_wec3_224 lw_c3_224.1 := ⟨rfl, ⟨rfl, ⟨rfl, ⟨rfl, ⟨rfl, ⟨rfl, ⟨rfl, ⟨rfl, ⟨rfl, ⟨rfl, ⟨rfl, ⟨rfl, ⟨rfl, ⟨rfl, trivial⟩⟩⟩⟩⟩⟩⟩⟩⟩⟩⟩⟩⟩⟩
noncomputable def n_wec4_0 : List (Option wE) := [some (13, 128, 0, 0, 0), some (4, 111, 216, 107, 0), some (11, 107, 0, 0, 0), some (12, 107, 0, 0, 0), some (13, 107, 0, 0, 0), some (4, 106, 21, 108, 0), some (11, 108, 0, 0, 0), some (12, 108, 0, 0, 0), some (13, 108, 0, 0, 0), some (4, 106, 35, 69, 0), some (4, 106, 31, 70, 0), some (4, 106, 39, 109, 0), some (11, 109, 0, 0, 0), some (12, 109, 0, 0, 0), some (13, 109, 0, 0, 0), some (4, 106, 42, 71, 0)]
theorem n_wec4_0_ok : okL n_wec4_0 lw_c4_0.1 := ⟨rfl, ⟨rfl, ⟨rfl, ⟨rfl, ⟨rfl, ⟨rfl, ⟨rfl, ⟨rfl, ⟨rfl, ⟨rfl, ⟨rfl, ⟨rfl, ⟨rfl, ⟨rfl, ⟨rfl, ⟨rfl, trivial⟩⟩⟩⟩⟩⟩⟩⟩⟩⟩⟩⟩⟩⟩⟩⟩
noncomputable def n_wec4_16 : List (Option wE) := [some (4, 106, 46, 110, 0), some (11, 110, 0, 0, 0), some (12, 110, 0, 0, 0), some (13, 110, 0, 0, 0), some (4, 106, 49, 72, 0), some (4, 106, 25, 68, 0), some (4, 111, 232, 176, 0), none, some (11, 176, 0, 0, 0), some (13, 176, 0, 0, 0), some (4, 111, 239, 46, 0), some (11, 46, 0, 0, 0), some (12, 46, 0, 0, 0), some (13, 46, 0, 0, 0), some (4, 299, 102, 129, 0), some (11, 129, 0, 0, 0)]
theorem n_wec4_16_ok : okL n_wec4_16 lw_c4_16.1 := ⟨rfl, ⟨rfl, ⟨rfl, ⟨rfl, ⟨rfl, ⟨rfl, ⟨rfl, ⟨rfl, ⟨rfl, ⟨rfl, ⟨rfl, ⟨rfl, ⟨rfl, ⟨rfl, ⟨rfl, trivial⟩⟩⟩⟩⟩⟩⟩⟩⟩⟩⟩⟩⟩⟩⟩
noncomputable def n_wec4_32 : List (Option wE) := [some (12, 129, 0, 0, 0), some (13, 129, 0, 0, 0), some (4, 111, 245, 18, 0), some (11, 18, 0, 0, 0), some (12, 18, 0, 0, 0), some (13, 18, 0, 0, 0), some (4, 111, 248, 19, 0), some (11, 19, 0, 0, 0), some (12, 19, 0, 0, 0), some (13, 19, 0, 0, 0), some (4, 14, 43, 43, 0), some (11, 43, 0, 0, 0), some (12, 43, 0, 0, 0), some (13, 43, 0, 0, 0), some (4, 299, 113, 131, 0), some (11, 131, 0, 0, 0)]
theorem n_wec4_32_ok : okL n_wec4_32 lw_c4_32.1 := ⟨rfl, ⟨rfl, ⟨rfl, ⟨rfl, ⟨rfl, ⟨rfl, ⟨rfl, ⟨rfl, ⟨rfl, ⟨rfl, ⟨rfl, ⟨rfl, ⟨rfl, ⟨rfl, ⟨rfl, ⟨rfl, trivial⟩⟩⟩⟩⟩⟩⟩⟩⟩⟩⟩⟩⟩⟩⟩⟩
noncomputable def n_wec4_48 : List (Option wE) := [some (12, 131, 0, 0, 0), some (13, 131, 0, 0, 0), some (4, 111, 251, 7, 0), some (11, 7, 0, 0, 0), some (12, 7, 0, 0, 0), some (13, 7, 0, 0, 0), some (4, 111, 261, 10, 0), some (11, 10, 0, 0, 0), some (12, 10, 0, 0, 0), some (13, 10, 0, 0, 0), some (4, 299, 117, 132, 0), some (11, 132, 0, 0, 0), some (12, 132, 0, 0, 0), some (13, 132, 0, 0, 0), some (4, 111, 267, 178, 0)]
theorem n_wec4_48_ok : okL n_wec4_48 lw_c4_48.1 := ⟨rfl, ⟨rfl, ⟨rfl, ⟨rfl, ⟨rfl, ⟨rfl, ⟨rfl, ⟨rfl, ⟨rfl, ⟨rfl, ⟨rfl, ⟨rfl, ⟨rfl, ⟨rfl, ⟨rfl, trivial⟩⟩⟩⟩⟩⟩⟩⟩⟩⟩⟩⟩⟩⟩⟩
noncomputable def n_wec4_64 : List (Option wE) := [some (11, 178, 0, 0, 0), some (13, 178, 0, 0, 0), some (4, 111, 476, 11, 0), some (11, 11, 0, 0, 0), some (12, 11, 0, 0, 0), some (13, 11, 0, 0, 0), some (4, 6, 22, 8, 0), some (11, 8, 0, 0, 0), some (12, 8, 0, 0, 0), some (13, 8, 0, 0, 0), some (4, 6, 26, 294, 0), some (4, 6, 32, 12, 0), some (11, 12, 0, 0, 0), some (12, 12, 0, 0, 0), some (13, 12, 0, 0, 0), some (4, 6, 39, 293, 0)]
theorem n_wec4_64_ok : okL n_wec4_64 lw_c4_64.1 := ⟨rfl, ⟨rfl, ⟨rfl, ⟨rfl, ⟨rfl, ⟨rfl, ⟨rfl, ⟨rfl, ⟨rfl, ⟨rfl, ⟨rfl, ⟨rfl, ⟨rfl, ⟨rfl, ⟨rfl, ⟨rfl, trivial⟩⟩⟩⟩⟩⟩⟩⟩⟩⟩⟩⟩⟩⟩⟩⟩
noncomputable def n_wec4_80 : List (Option wE) := [some (10, 293, 0, 0, 0), some (13, 293, 0, 0, 0), some (8, 292, 265, 0, 1431655765), some (8, 292, 266, 0, 858993459), some (8, 292, 267, 0, 252645135), some (4, 6, 45, 13, 0), some (11, 13, 0, 0, 0), some (12, 13, 0, 0, 0), some (13, 13, 0, 0, 0), some (4, 299, 121, 133, 0), some (11, 133, 0, 0, 0), some (12, 133, 0, 0, 0), some (13, 133, 0, 0, 0), some (4, 299, 125, 134, 0), some (11, 134, 0, 0, 0), some (12, 134, 0, 0, 0)]
theorem n_wec4_80_ok : okL n_wec4_80 lw_c4_80.1 := ⟨rfl, ⟨rfl, ⟨rfl, ⟨rfl, ⟨rfl, ⟨rfl, ⟨rfl, ⟨rfl, ⟨rfl, ⟨rfl, ⟨rfl, ⟨rfl, ⟨rfl, ⟨rfl, ⟨rfl, ⟨rfl, trivial⟩⟩⟩⟩⟩⟩⟩⟩⟩⟩⟩⟩⟩⟩⟩⟩
noncomputable def n_wec4_96 : List (Option wE) := [some (13, 134, 0, 0, 0), some (4, 111, 282, 36, 0), some (4, 299, 129, 135, 0), some (11, 135, 0, 0, 0), some (12, 135, 0, 0, 0), some (13, 135, 0, 0, 0), some (4, 111, 285, 179, 0), none, some (11, 179, 0, 0, 0), some (13, 179, 0, 0, 0), some (4, 111, 288, 180, 0), none, some (11, 180, 0, 0, 0), some (13, 180, 0, 0, 0), some (4, 111, 357, 74, 0), some (11, 74, 0, 0, 0)]
theorem n_wec4_96_ok : okL n_wec4_96 lw_c4_96.1 := ⟨rfl, ⟨rfl, ⟨rfl, ⟨rfl, ⟨rfl, ⟨rfl, ⟨rfl, ⟨rfl, ⟨rfl, ⟨rfl, ⟨rfl, ⟨rfl, ⟨rfl, ⟨rfl, trivial⟩⟩⟩⟩⟩⟩⟩⟩⟩⟩⟩⟩⟩⟩
noncomputable def n_wec4_112 : List (Option wE) := [some (12, 74, 0, 0, 0), some (13, 74, 0, 0, 0), some (4, 111, 358, 75, 0), some (11, 75, 0, 0, 0), some (12, 75, 0, 0, 0), some (13, 75, 0, 0, 0), some (4, 111, 292, 76, 0), some (11, 76, 0, 0, 0), some (12, 76, 0, 0, 0), some (13, 76, 0, 0, 0), some (4, 111, 295, 77, 0), some (11, 77, 0, 0, 0), some (12, 77, 0, 0, 0), some (13, 77, 0, 0, 0), some (4, 299, 133, 136, 0), some (11, 136, 0, 0, 0)]
theorem n_wec4_112_ok : okL n_wec4_112 lw_c4_112.1 := ⟨rfl, ⟨rfl, ⟨rfl, ⟨rfl, ⟨rfl, ⟨rfl, ⟨rfl, ⟨rfl, ⟨rfl, ⟨rfl, ⟨rfl, ⟨rfl, ⟨rfl, ⟨rfl, ⟨rfl, ⟨rfl, trivial⟩⟩⟩⟩⟩⟩⟩⟩⟩⟩⟩⟩⟩⟩⟩⟩
noncomputable def n_wec4_128 : List (Option wE) := [some (12, 136, 0, 0, 0), some (13, 136, 0, 0, 0), some (4, 111, 303, 78, 0), some (11, 78, 0, 0, 0), some (12, 78, 0, 0, 0), some (13, 78, 0, 0, 0), some (4, 111, 306, 79, 0), some (11, 79, 0, 0, 0), some (12, 79, 0, 0, 0), some (13, 79, 0, 0, 0), some (4, 111, 312, 80, 0), some (11, 80, 0, 0, 0), some (12, 80, 0, 0, 0), some (13, 80, 0, 0, 0), some (4, 299, 137, 137, 0), some (11, 137, 0, 0, 0)]
theorem n_wec4_128_ok : okL n_wec4_128 lw_c4_128.1 := ⟨rfl, ⟨rfl, ⟨rfl, ⟨rfl, ⟨rfl, ⟨rfl, ⟨rfl, ⟨rfl, ⟨rfl, ⟨rfl, ⟨rfl, ⟨rfl, ⟨rfl, ⟨rfl, ⟨rfl, ⟨rfl, trivial⟩⟩⟩⟩⟩⟩⟩⟩⟩⟩⟩⟩⟩⟩⟩⟩
noncomputable def n_wec4_144 : List (Option wE) := [some (12, 137, 0, 0, 0), some (13, 137, 0, 0, 0), some (4, 111, 155, 28, 0), some (4, 111, 315, 27, 0), some (4, 111, 318, 83, 0), some (11, 83, 0, 0, 0), some (12, 83, 0, 0, 0), some (13, 83, 0, 0, 0), some (4, 73, 34, 81, 0), some (10, 81, 0, 0, 0), some (13, 81, 0, 0, 0), some (4, 111, 321, 45, 0), some (11, 45, 0, 0, 0), some (12, 45, 0, 0, 0), some (13, 45, 0, 0, 0), some (4, 111, 323, 82, 0)]
theorem n_wec4_144_ok : okL n_wec4_144 lw_c4_144.1 := ⟨rfl, ⟨rfl, ⟨rfl, ⟨rfl, ⟨rfl, ⟨rfl, ⟨rfl, ⟨rfl, ⟨rfl, ⟨rfl, ⟨rfl, ⟨rfl, ⟨rfl, ⟨rfl, ⟨rfl, ⟨rfl, trivial⟩⟩⟩⟩⟩⟩⟩⟩⟩⟩⟩⟩⟩⟩⟩⟩
noncomputable def n_wec4_160 : List (Option wE) := [some (11, 82, 0, 0, 0), some (12, 82, 0, 0, 0), some (13, 82, 0, 0, 0), some (4, 299, 141, 138, 0), some (11, 138, 0, 0, 0), some (12, 138, 0, 0, 0), some (13, 138, 0, 0, 0), some (4, 299, 145, 139, 0), some (11, 139, 0, 0, 0), some (12, 139, 0, 0, 0), some (13, 139, 0, 0, 0), some (4, 299, 149, 140, 0), some (11, 140, 0, 0, 0), some (12, 140, 0, 0, 0), some (13, 140, 0, 0, 0), some (4, 111, 332, 84, 0)]
theorem n_wec4_160_ok : okL n_wec4_160 lw_c4_160.1 := ⟨rfl, ⟨rfl, ⟨rfl, ⟨rfl, ⟨rfl, ⟨rfl, ⟨rfl, ⟨rfl, ⟨rfl, ⟨rfl, ⟨rfl, ⟨rfl, ⟨rfl, ⟨rfl, ⟨rfl, ⟨rfl, trivial⟩⟩⟩⟩⟩⟩⟩⟩⟩⟩⟩⟩⟩⟩⟩⟩
noncomputable def n_wec4_176 : List (Option wE) := [some (11, 84, 0, 0, 0), some (12, 84, 0, 0, 0), some (13, 84, 0, 0, 0), some (4, 73, 38, 27, 0), some (4, 73, 44, 86, 0), some (11, 86, 0, 0, 0), some (12, 86, 0, 0, 0), some (13, 86, 0, 0, 0), some (4, 73, 68, 32, 0), some (4, 73, 54, 85, 0), some (10, 85, 0, 0, 0), some (13, 85, 0, 0, 0), some (4, 73, 64, 33, 0), some (5, 73, 48, 0, 0), some (4, 299, 153, 141, 0), some (11, 141, 0, 0, 0)]
theorem n_wec4_176_ok : okL n_wec4_176 lw_c4_176.1 := ⟨rfl, ⟨rfl, ⟨rfl, ⟨rfl, ⟨rfl, ⟨rfl, ⟨rfl, ⟨rfl, ⟨rfl, ⟨rfl, ⟨rfl, ⟨rfl, ⟨rfl, ⟨rfl, ⟨rfl, ⟨rfl, trivial⟩⟩⟩⟩⟩⟩⟩⟩⟩⟩⟩⟩⟩⟩⟩⟩
noncomputable def n_wec4_192 : List (Option wE) := [some (12, 141, 0, 0, 0), some (13, 141, 0, 0, 0), some (4, 111, 342, 87, 0), some (11, 87, 0, 0, 0), some (12, 87, 0, 0, 0), some (13, 87, 0, 0, 0), some (4, 299, 157, 142, 0), some (11, 142, 0, 0, 0), some (12, 142, 0, 0, 0), some (13, 142, 0, 0, 0), some (4, 111, 349, 293, 0), some (4, 299, 161, 143, 0), some (11, 143, 0, 0, 0), some (12, 143, 0, 0, 0), some (13, 143, 0, 0, 0), some (4, 111, 161, 29, 0)]
theorem n_wec4_192_ok : okL n_wec4_192 lw_c4_192.1 := ⟨rfl, ⟨rfl, ⟨rfl, ⟨rfl, ⟨rfl, ⟨rfl, ⟨rfl, ⟨rfl, ⟨rfl, ⟨rfl, ⟨rfl, ⟨rfl, ⟨rfl, ⟨rfl, ⟨rfl, ⟨rfl, trivial⟩⟩⟩⟩⟩⟩⟩⟩⟩⟩⟩⟩⟩⟩⟩⟩
noncomputable def n_wec4_208 : List (Option wE) := [some (4, 111, 354, 34, 0), some (11, 34, 0, 0, 0), some (12, 34, 0, 0, 0), some (13, 34, 0, 0, 0), some (4, 24, 65, 295, 0), some (4, 299, 165, 144, 0), some (11, 144, 0, 0, 0), some (12, 144, 0, 0, 0), some (13, 144, 0, 0, 0), some (4, 111, 361, 88, 0), some (11, 88, 0, 0, 0), some (12, 88, 0, 0, 0), some (13, 88, 0, 0, 0), some (4, 73, 81, 293, 0), some (4, 73, 87, 90, 0), some (11, 90, 0, 0, 0)]
theorem n_wec4_208_ok : okL n_wec4_208 lw_c4_208.1 := ⟨rfl, ⟨rfl, ⟨rfl, ⟨rfl, ⟨rfl, ⟨rfl, ⟨rfl, ⟨rfl, ⟨rfl, ⟨rfl, ⟨rfl, ⟨rfl, ⟨rfl, ⟨rfl, ⟨rfl, ⟨rfl, trivial⟩⟩⟩⟩⟩⟩⟩⟩⟩⟩⟩⟩⟩⟩⟩⟩
noncomputable def n_wec4_224 : List (Option wE) := [some (12, 90, 0, 0, 0), some (13, 90, 0, 0, 0), some (4, 73, 91, 89, 0), some (11, 89, 0, 0, 0), some (12, 89, 0, 0, 0), some (13, 89, 0, 0, 0), some (4, 73, 94, 26, 0), some (4, 73, 98, 34, 0), some (4, 111, 368, 48, 0), some (11, 48, 0, 0, 0), some (12, 48, 0, 0, 0), some (13, 48, 0, 0, 0), some (4, 44, 19, 294, 0), some (4, 44, 25, 295, 0), some (5, 44, 28, 0, 0), some (4, 299, 169, 145, 0)]
theorem n_wec4_224_ok : okL n_wec4_224 lw_c4_224.1 := ⟨rfl, ⟨rfl, ⟨rfl, ⟨rfl, ⟨rfl, ⟨rfl, ⟨rfl, ⟨rfl, ⟨rfl, ⟨rfl, ⟨rfl, ⟨rfl, ⟨rfl, ⟨rfl, ⟨rfl, ⟨rfl, trivial⟩⟩⟩⟩⟩⟩⟩⟩⟩⟩⟩⟩⟩⟩⟩⟩
noncomputable def n_wec5_0 : List (Option wE) := [some (11, 145, 0, 0, 0), some (12, 145, 0, 0, 0), some (13, 145, 0, 0, 0), some (4, 111, 372, 31, 0), some (11, 31, 0, 0, 0), some (12, 31, 0, 0, 0), some (13, 31, 0, 0, 0), some (4, 299, 173, 146, 0), some (11, 146, 0, 0, 0), some (12, 146, 0, 0, 0), some (13, 146, 0, 0, 0), some (4, 111, 375, 181, 0), none, some (11, 181, 0, 0, 0), some (13, 181, 0, 0, 0), some (4, 111, 479, 71, 0)]
theorem n_wec5_0_ok : okL n_wec5_0 lw_c5_0.1 := ⟨rfl, ⟨rfl, ⟨rfl, ⟨rfl, ⟨rfl, ⟨rfl, ⟨rfl, ⟨rfl, ⟨rfl, ⟨rfl, ⟨rfl, ⟨rfl, ⟨rfl, ⟨rfl, ⟨rfl, trivial⟩⟩⟩⟩⟩⟩⟩⟩⟩⟩⟩⟩⟩⟩⟩
noncomputable def n_wec5_16 : List (Option wE) := [some (4, 111, 482, 68, 0), some (4, 111, 378, 91, 0), some (11, 91, 0, 0, 0), some (12, 91, 0, 0, 0), some (13, 91, 0, 0, 0), some (4, 73, 101, 93, 0), some (11, 93, 0, 0, 0), some (12, 93, 0, 0, 0), some (13, 93, 0, 0, 0), some (4, 73, 104, 92, 0), some (11, 92, 0, 0, 0), some (12, 92, 0, 0, 0), some (13, 92, 0, 0, 0), some (4, 299, 177, 147, 0), some (11, 147, 0, 0, 0), some (12, 147, 0, 0, 0)]
theorem n_wec5_16_ok : okL n_wec5_16 lw_c5_16.1 := ⟨rfl, ⟨rfl, ⟨rfl, ⟨rfl, ⟨rfl, ⟨rfl, ⟨rfl, ⟨rfl, ⟨rfl, ⟨rfl, ⟨rfl, ⟨rfl, ⟨rfl, ⟨rfl, ⟨rfl, ⟨rfl, trivial⟩⟩⟩⟩⟩⟩⟩⟩⟩⟩⟩⟩⟩⟩⟩⟩
noncomputable def n_wec5_32 : List (Option wE) := [some (13, 147, 0, 0, 0), some (4, 111, 381, 94, 0), some (11, 94, 0, 0, 0), some (12, 94, 0, 0, 0), some (13, 94, 0, 0, 0), some (4, 73, 107, 95, 0), some (11, 95, 0, 0, 0), some (12, 95, 0, 0, 0), some (13, 95, 0, 0, 0), some (4, 299, 181, 148, 0), some (11, 148, 0, 0, 0), some (12, 148, 0, 0, 0), some (13, 148, 0, 0, 0), some (4, 111, 384, 61, 0), some (11, 61, 0, 0, 0), some (12, 61, 0, 0, 0)]
theorem n_wec5_32_ok : okL n_wec5_32 lw_c5_32.1 := ⟨rfl, ⟨rfl, ⟨rfl, ⟨rfl, ⟨rfl, ⟨rfl, ⟨rfl, ⟨rfl, ⟨rfl, ⟨rfl, ⟨rfl, ⟨rfl, ⟨rfl, ⟨rfl, ⟨rfl, ⟨rfl, trivial⟩⟩⟩⟩⟩⟩⟩⟩⟩⟩⟩⟩⟩⟩⟩⟩
noncomputable def n_wec5_48 : List (Option wE) := [some (13, 61, 0, 0, 0), some (4, 299, 185, 149, 0), some (11, 149, 0, 0, 0), some (12, 149, 0, 0, 0), some (13, 149, 0, 0, 0), some (4, 299, 189, 150, 0), some (11, 150, 0, 0, 0), some (12, 150, 0, 0, 0), some (13, 150, 0, 0, 0), some (4, 111, 389, 182, 0), none, some (11, 182, 0, 0, 0), some (13, 182, 0, 0, 0), some (4, 111, 392, 297, 0), some (10, 297, 0, 0, 0), some (13, 297, 0, 0, 0)]
theorem n_wec5_48_ok : okL n_wec5_48 lw_c5_48.1 := ⟨rfl, ⟨rfl, ⟨rfl, ⟨rfl, ⟨rfl, ⟨rfl, ⟨rfl, ⟨rfl, ⟨rfl, ⟨rfl, ⟨rfl, ⟨rfl, ⟨rfl, ⟨rfl, ⟨rfl, trivial⟩⟩⟩⟩⟩⟩⟩⟩⟩⟩⟩⟩⟩⟩⟩
noncomputable def n_wec5_64 : List (Option wE) := [some (4, 299, 193, 151, 0), some (11, 151, 0, 0, 0), some (12, 151, 0, 0, 0), some (13, 151, 0, 0, 0), some (4, 111, 397, 183, 0), none, some (11, 183, 0, 0, 0), some (13, 183, 0, 0, 0), some (4, 299, 197, 152, 0), some (11, 152, 0, 0, 0), some (12, 152, 0, 0, 0), some (13, 152, 0, 0, 0), some (4, 111, 400, 184, 0), none, some (11, 184, 0, 0, 0), some (13, 184, 0, 0, 0)]
theorem n_wec5_64_ok : okL n_wec5_64 lw_c5_64.1 := ⟨rfl, ⟨rfl, ⟨rfl, ⟨rfl, ⟨rfl, ⟨rfl, ⟨rfl, ⟨rfl, ⟨rfl, ⟨rfl, ⟨rfl, ⟨rfl, ⟨rfl, ⟨rfl, trivial⟩⟩⟩⟩⟩⟩⟩⟩⟩⟩⟩⟩⟩⟩
noncomputable def n_wec5_80 : List (Option wE) := [some (4, 299, 201, 153, 0), some (11, 153, 0, 0, 0), some (12, 153, 0, 0, 0), some (13, 153, 0, 0, 0), some (4, 111, 404, 97, 0), some (11, 97, 0, 0, 0), some (12, 97, 0, 0, 0), some (13, 97, 0, 0, 0), some (4, 299, 205, 154, 0), some (11, 154, 0, 0, 0), some (12, 154, 0, 0, 0), some (13, 154, 0, 0, 0), some (4, 299, 209, 155, 0), some (11, 155, 0, 0, 0), some (12, 155, 0, 0, 0), some (13, 155, 0, 0, 0)]
theorem n_wec5_80_ok : okL n_wec5_80 lw_c5_80.1 := ⟨rfl, ⟨rfl, ⟨rfl, ⟨rfl, ⟨rfl, ⟨rfl, ⟨rfl, ⟨rfl, ⟨rfl, ⟨rfl, ⟨rfl, ⟨rfl, ⟨rfl, ⟨rfl, ⟨rfl, ⟨rfl, trivial⟩⟩⟩⟩⟩⟩⟩⟩⟩⟩⟩⟩⟩⟩⟩⟩
noncomputable def n_wec5_96 : List (Option wE) := [some (4, 111, 410, 99, 0), some (11, 99, 0, 0, 0), some (12, 99, 0, 0, 0), some (13, 99, 0, 0, 0), some (4, 96, 38, 98, 0), some (11, 98, 0, 0, 0), some (12, 98, 0, 0, 0), some (13, 98, 0, 0, 0), some (4, 96, 42, 101, 0), some (11, 101, 0, 0, 0), some (12, 101, 0, 0, 0), some (13, 101, 0, 0, 0), some (4, 96, 46, 100, 0), some (11, 100, 0, 0, 0), some (12, 100, 0, 0, 0), some (13, 100, 0, 0, 0)]
theorem n_wec5_96_ok : okL n_wec5_96 lw_c5_96.1 := ⟨rfl, ⟨rfl, ⟨rfl, ⟨rfl, ⟨rfl, ⟨rfl, ⟨rfl, ⟨rfl, ⟨rfl, ⟨rfl, ⟨rfl, ⟨rfl, ⟨rfl, ⟨rfl, ⟨rfl, ⟨rfl, trivial⟩⟩⟩⟩⟩⟩⟩⟩⟩⟩⟩⟩⟩⟩⟩⟩
noncomputable def n_wec5_112 : List (Option wE) := [some (4, 96, 50, 295, 0), some (4, 299, 213, 156, 0), some (11, 156, 0, 0, 0), some (12, 156, 0, 0, 0), some (13, 156, 0, 0, 0), some (4, 111, 416, 102, 0), some (11, 102, 0, 0, 0), some (12, 102, 0, 0, 0), some (13, 102, 0, 0, 0), some (4, 96, 55, 103, 0), some (11, 103, 0, 0, 0), some (12, 103, 0, 0, 0), some (13, 103, 0, 0, 0), some (4, 96, 59, 293, 0), some (4, 299, 217, 157, 0), some (11, 157, 0, 0, 0)]
theorem n_wec5_112_ok : okL n_wec5_112 lw_c5_112.1 := ⟨rfl, ⟨rfl, ⟨rfl, ⟨rfl, ⟨rfl, ⟨rfl, ⟨rfl, ⟨rfl, ⟨rfl, ⟨rfl, ⟨rfl, ⟨rfl, ⟨rfl, ⟨rfl, ⟨rfl, ⟨rfl, trivial⟩⟩⟩⟩⟩⟩⟩⟩⟩⟩⟩⟩⟩⟩⟩⟩
noncomputable def n_wec5_128 : List (Option wE) := [some (12, 157, 0, 0, 0), some (13, 157, 0, 0, 0), some (4, 111, 419, 104, 0), some (11, 104, 0, 0, 0), some (12, 104, 0, 0, 0), some (13, 104, 0, 0, 0), some (4, 96, 64, 105, 0), some (11, 105, 0, 0, 0), some (12, 105, 0, 0, 0), some (13, 105, 0, 0, 0), some (5, 96, 67, 0, 0), some (4, 299, 221, 158, 0), some (11, 158, 0, 0, 0), some (12, 158, 0, 0, 0), some (13, 158, 0, 0, 0), some (4, 111, 422, 5, 0)]
theorem n_wec5_128_ok : okL n_wec5_128 lw_c5_128.1 := ⟨rfl, ⟨rfl, ⟨rfl, ⟨rfl, ⟨rfl, ⟨rfl, ⟨rfl, ⟨rfl, ⟨rfl, ⟨rfl, ⟨rfl, ⟨rfl, ⟨rfl, ⟨rfl, ⟨rfl, ⟨rfl, trivial⟩⟩⟩⟩⟩⟩⟩⟩⟩⟩⟩⟩⟩⟩⟩⟩
noncomputable def n_wec5_144 : List (Option wE) := [some (11, 5, 0, 0, 0), some (12, 5, 0, 0, 0), some (13, 5, 0, 0, 0), some (8, 0, 56, 0, 1103515245), some (4, 0, 57, 295, 0), some (4, 299, 225, 159, 0), some (11, 159, 0, 0, 0), some (12, 159, 0, 0, 0), some (13, 159, 0, 0, 0), some (4, 111, 425, 21, 0), some (11, 21, 0, 0, 0), some (12, 21, 0, 0, 0), some (13, 21, 0, 0, 0), some (4, 299, 229, 160, 0), some (11, 160, 0, 0, 0), some (12, 160, 0, 0, 0)]
theorem n_wec5_144_ok : okL n_wec5_144 lw_c5_144.1 := ⟨rfl, ⟨rfl, ⟨rfl, ⟨rfl, ⟨rfl, ⟨rfl, ⟨rfl, ⟨rfl, ⟨rfl, ⟨rfl, ⟨rfl, ⟨rfl, ⟨rfl, ⟨rfl, ⟨rfl, ⟨rfl, trivial⟩⟩⟩⟩⟩⟩⟩⟩⟩⟩⟩⟩⟩⟩⟩⟩
noncomputable def n_wec5_160 : List (Option wE) := [some (13, 160, 0, 0, 0), some (4, 111, 429, 22, 0), some (11, 22, 0, 0, 0), some (12, 22, 0, 0, 0), some (13, 22, 0, 0, 0), some (4, 111, 432, 23, 0), some (11, 23, 0, 0, 0), some (12, 23, 0, 0, 0), some (13, 23, 0, 0, 0), some (4, 299, 233, 161, 0), some (11, 161, 0, 0, 0), some (12, 161, 0, 0, 0), some (13, 161, 0, 0, 0), some (4, 111, 441, 8, 0), some (8, 111, 448, 0, -100000), some (4, 299, 51, 299, 0)]
theorem n_wec5_160_ok : okL n_wec5_160 lw_c5_160.1 := ⟨rfl, ⟨rfl, ⟨rfl, ⟨rfl, ⟨rfl, ⟨rfl, ⟨rfl, ⟨rfl, ⟨rfl, ⟨rfl, ⟨rfl, ⟨rfl, ⟨rfl, ⟨rfl, ⟨rfl, ⟨rfl, trivial⟩⟩⟩⟩⟩⟩⟩⟩⟩⟩⟩⟩⟩⟩⟩⟩
noncomputable def n_wec5_176 : List (Option wE) := [some (10, 299, 0, 0, 0), none, none, some (4, 299, 7, 117, 0), some (11, 117, 0, 0, 0), some (12, 117, 0, 0, 0), some (13, 117, 0, 0, 0)]
theorem n_wec5_176_ok : okL n_wec5_176 lw_c5_176.1 := ⟨rfl, ⟨rfl, ⟨rfl, ⟨rfl, ⟨rfl, trivial⟩⟩⟩⟩⟩
noncomputable def n_wec5_192 : List (Option wE) := []
theorem n_wec5_192_ok : okL n_wec5_192 lw_c5_192.1 := trivial
noncomputable def n_wec5_208 : List (Option wE) := []
theorem n_wec5_208_ok : okL n_wec5_208 lw_c5_208.1 := trivial
noncomputable def n_wec5_224 : List (Option wE) := []
theorem n_wec5_224_ok : okL n_wec5_224 lw_c5_224.1 := trivial
noncomputable def n_wec6_0 : List (Option wE) := [none, none, none, none, none, none, none, none, none, some (4, 111, 139, 172, 0), none, some (11, 172, 0, 0, 0), some (13, 172, 0, 0, 0), none, some (4, 299, 57, 300, 0), some (10, 300, 0, 0, 0)]
theorem n_wec6_0_ok : okL n_wec6_0 lw_c6_0.1 := ⟨rfl, ⟨rfl, ⟨rfl, ⟨rfl, ⟨rfl, trivial⟩⟩⟩⟩⟩
noncomputable def n_wec6_16 : List (Option wE) := [none, some (4, 299, 15, 118, 0), some (11, 118, 0, 0, 0), some (12, 118, 0, 0, 0), some (13, 118, 0, 0, 0), none, none, some (4, 299, 106, 301, 0), some (10, 301, 0, 0, 0), none, some (4, 299, 18, 130, 0), some (11, 130, 0, 0, 0), some (12, 130, 0, 0, 0), some (13, 130, 0, 0, 0), none, some (4, 299, 237, 302, 0)]
theorem n_wec6_16_ok : okL n_wec6_16 lw_c6_16.1 := ⟨rfl, ⟨rfl, ⟨rfl, ⟨rfl, ⟨rfl, ⟨rfl, ⟨rfl, ⟨rfl, ⟨rfl, ⟨rfl, ⟨rfl, trivial⟩⟩⟩⟩⟩⟩⟩⟩⟩⟩⟩
noncomputable def n_wec6_32 : List (Option wE) := [some (10, 302, 0, 0, 0), none, some (4, 299, 22, 162, 0), some (11, 162, 0, 0, 0), some (12, 162, 0, 0, 0), some (13, 162, 0, 0, 0), none, some (2, 299, 26, 12, 0), none, some (4, 299, 28, 185, 0), some (11, 185, 0, 0, 0), some (13, 185, 0, 0, 0), some (6, 185, 3, 0, 0), some (1, 185, 9, 12, 0), some (1, 185, 174, 12, 1), some (1, 185, 13, 12, 2)]
theorem n_wec6_32_ok : okL n_wec6_32 lw_c6_32.1 := ⟨rfl, ⟨rfl, ⟨rfl, ⟨rfl, ⟨rfl, ⟨rfl, ⟨rfl, ⟨rfl, ⟨rfl, ⟨rfl, ⟨rfl, ⟨rfl, ⟨rfl, trivial⟩⟩⟩⟩⟩⟩⟩⟩⟩⟩⟩⟩⟩
noncomputable def n_wec6_48 : List (Option wE) := [some (1, 185, 16, 12, 3), some (1, 185, 122, 12, 4), some (1, 185, 19, 12, 5), some (1, 185, 129, 12, 6), some (1, 185, 22, 12, 7), some (1, 185, 25, 12, 8), some (1, 185, 132, 12, 9), some (1, 185, 29, 12, 10), some (1, 185, 119, 12, 11), some (1, 185, 115, 12, 12), some (1, 185, 135, 12, 13), some (1, 185, 138, 12, 14), some (1, 185, 141, 12, 15), some (1, 185, 144, 12, 16), some (1, 185, 147, 12, 17), some (1, 185, 32, 12, 18)]
theorem n_wec6_48_ok : okL n_wec6_48 lw_c6_48.1 := ⟨rfl, ⟨rfl, ⟨rfl, ⟨rfl, ⟨rfl, ⟨rfl, ⟨rfl, ⟨rfl, ⟨rfl, ⟨rfl, ⟨rfl, ⟨rfl, ⟨rfl, ⟨rfl, ⟨rfl, ⟨rfl, trivial⟩⟩⟩⟩⟩⟩⟩⟩⟩⟩⟩⟩⟩⟩⟩⟩
noncomputable def n_wec6_64 : List (Option wE) := [some (1, 185, 35, 12, 19), some (1, 185, 38, 12, 20), some (1, 185, 41, 12, 21), some (1, 185, 177, 12, 22), some (1, 185, 180, 12, 23), some (1, 185, 44, 12, 24), some (1, 185, 231, 12, 25), some (1, 185, 212, 12, 26), some (1, 185, 228, 12, 27), some (1, 185, 216, 12, 28), some (1, 185, 219, 12, 29), some (1, 185, 222, 12, 30), some (1, 185, 273, 12, 31), some (1, 185, 276, 12, 32), some (1, 185, 279, 12, 33), some (1, 185, 47, 12, 34)]
theorem n_wec6_64_ok : okL n_wec6_64 lw_c6_64.1 := ⟨rfl, ⟨rfl, ⟨rfl, ⟨rfl, ⟨rfl, ⟨rfl, ⟨rfl, ⟨rfl, ⟨rfl, ⟨rfl, ⟨rfl, ⟨rfl, ⟨rfl, ⟨rfl, ⟨rfl, ⟨rfl, trivial⟩⟩⟩⟩⟩⟩⟩⟩⟩⟩⟩⟩⟩⟩⟩⟩
noncomputable def n_wec6_80 : List (Option wE) := [some (1, 185, 186, 12, 35), some (1, 185, 50, 12, 36), some (1, 185, 53, 12, 37), some (1, 185, 331, 12, 38), some (1, 185, 339, 12, 39), some (1, 185, 56, 12, 40), some (1, 185, 59, 12, 41), some (1, 185, 62, 12, 42), some (1, 185, 65, 12, 43), some (1, 185, 69, 12, 44), some (1, 185, 72, 12, 45), some (1, 185, 75, 12, 46), some (1, 185, 379, 12, 47), some (1, 185, 78, 12, 48), some (1, 185, 389, 12, 49), some (1, 185, 81, 12, 50)]
theorem n_wec6_80_ok : okL n_wec6_80 lw_c6_80.1 := ⟨rfl, ⟨rfl, ⟨rfl, ⟨rfl, ⟨rfl, ⟨rfl, ⟨rfl, ⟨rfl, ⟨rfl, ⟨rfl, ⟨rfl, ⟨rfl, ⟨rfl, ⟨rfl, ⟨rfl, ⟨rfl, trivial⟩⟩⟩⟩⟩⟩⟩⟩⟩⟩⟩⟩⟩⟩⟩⟩
noncomputable def n_wec6_96 : List (Option wE) := [some (1, 185, 84, 12, 51), some (1, 185, 404, 12, 52), some (1, 185, 87, 12, 53), some (1, 185, 410, 12, 54), some (1, 185, 90, 12, 55), some (1, 185, 93, 12, 56), some (1, 185, 413, 12, 57), some (1, 185, 96, 12, 58), some (1, 185, 99, 12, 59), some (1, 185, 102, 12, 60), some (1, 185, 422, 12, 61), some (1, 185, 189, 12, 62), some (1, 185, 105, 12, 63), some (1, 185, 108, 12, 64), some (1, 185, 112, 12, 65)]
theorem n_wec6_96_ok : okL n_wec6_96 lw_c6_96.1 := ⟨rfl, ⟨rfl, ⟨rfl, ⟨rfl, ⟨rfl, ⟨rfl, ⟨rfl, ⟨rfl, ⟨rfl, ⟨rfl, ⟨rfl, ⟨rfl, ⟨rfl, ⟨rfl, ⟨rfl, trivial⟩⟩⟩⟩⟩⟩⟩⟩⟩⟩⟩⟩⟩⟩⟩
noncomputable def n_wec6_112 : List (Option wE) := []
theorem n_wec6_112_ok : okL n_wec6_112 lw_c6_112.1 := trivial
noncomputable def n_wec6_128 : List (Option wE) := []
theorem n_wec6_128_ok : okL n_wec6_128 lw_c6_128.1 := trivial
noncomputable def n_wec6_144 : List (Option wE) := []
theorem n_wec6_144_ok : okL n_wec6_144 lw_c6_144.1 := trivial
noncomputable def n_wec6_160 : List (Option wE) := []
theorem n_wec6_160_ok : okL n_wec6_160 lw_c6_160.1 := trivial
noncomputable def n_wec6_176 : List (Option wE) := []
theorem n_wec6_176_ok : okL n_wec6_176 lw_c6_176.1 := trivial
noncomputable def n_wec6_192 : List (Option wE) := []
theorem n_wec6_192_ok : okL n_wec6_192 lw_c6_192.1 := trivial
noncomputable def n_wec6_208 : List (Option wE) := []
theorem n_wec6_208_ok : okL n_wec6_208 lw_c6_208.1 := trivial
noncomputable def n_wec6_224 : List (Option wE) := []
theorem n_wec6_224_ok : okL n_wec6_224 lw_c6_224.1 := trivial
noncomputable def n_wec7_0 : List (Option wE) := [none, none, none, none, none, some (4, 299, 110, 298, 0), some (11, 298, 0, 0, 0), some (12, 298, 0, 0, 0), some (13, 298, 0, 0, 0), some (4, 299, 32, 195, 0), some (11, 195, 0, 0, 0), some (12, 195, 0, 0, 0), some (13, 195, 0, 0, 0), some (4, 299, 37, 196, 0), some (11, 196, 0, 0, 0), some (12, 196, 0, 0, 0)]
theorem n_wec7_0_ok : okL n_wec7_0 lw_c7_0.1 := ⟨rfl, ⟨rfl, ⟨rfl, ⟨rfl, ⟨rfl, ⟨rfl, ⟨rfl, ⟨rfl, ⟨rfl, ⟨rfl, ⟨rfl, trivial⟩⟩⟩⟩⟩⟩⟩⟩⟩⟩⟩
noncomputable def n_wec7_16 : List (Option wE) := [some (13, 196, 0, 0, 0), some (4, 185, 125, 186, 0), some (10, 186, 0, 0, 0), some (13, 186, 0, 0, 0), some (4, 299, 42, 205, 0), some (11, 205, 0, 0, 0), some (12, 205, 0, 0, 0), some (13, 205, 0, 0, 0), some (4, 185, 170, 197, 0), none, some (11, 197, 0, 0, 0), some (13, 197, 0, 0, 0), some (4, 185, 150, 199, 0), none, some (11, 199, 0, 0, 0), some (13, 199, 0, 0, 0)]
theorem n_wec7_16_ok : okL n_wec7_16 lw_c7_16.1 := ⟨rfl, ⟨rfl, ⟨rfl, ⟨rfl, ⟨rfl, ⟨rfl, ⟨rfl, ⟨rfl, ⟨rfl, ⟨rfl, ⟨rfl, ⟨rfl, ⟨rfl, ⟨rfl, trivial⟩⟩⟩⟩⟩⟩⟩⟩⟩⟩⟩⟩⟩⟩
noncomputable def n_wec7_32 : List (Option wE) := [some (4, 185, 162, 200, 0), none, some (11, 200, 0, 0, 0), some (13, 200, 0, 0, 0), some (4, 185, 154, 198, 0), none, some (11, 198, 0, 0, 0), some (13, 198, 0, 0, 0), some (4, 185, 158, 201, 0), none, some (11, 201, 0, 0, 0), some (13, 201, 0, 0, 0), some (4, 299, 46, 206, 0), some (11, 206, 0, 0, 0), some (12, 206, 0, 0, 0), some (13, 206, 0, 0, 0)]
theorem n_wec7_32_ok : okL n_wec7_32 lw_c7_32.1 := ⟨rfl, ⟨rfl, ⟨rfl, ⟨rfl, ⟨rfl, ⟨rfl, ⟨rfl, ⟨rfl, ⟨rfl, ⟨rfl, ⟨rfl, ⟨rfl, ⟨rfl, trivial⟩⟩⟩⟩⟩⟩⟩⟩⟩⟩⟩⟩⟩
noncomputable def n_wec7_48 : List (Option wE) := [some (4, 185, 183, 207, 0), none, some (11, 207, 0, 0, 0), some (13, 207, 0, 0, 0), some (4, 185, 192, 204, 0), none, some (11, 204, 0, 0, 0), some (13, 204, 0, 0, 0), some (4, 185, 166, 203, 0), none, some (11, 203, 0, 0, 0), some (13, 203, 0, 0, 0), some (4, 185, 195, 202, 0), none, some (11, 202, 0, 0, 0), some (13, 202, 0, 0, 0)]
theorem n_wec7_48_ok : okL n_wec7_48 lw_c7_48.1 := ⟨rfl, ⟨rfl, ⟨rfl, ⟨rfl, ⟨rfl, ⟨rfl, ⟨rfl, ⟨rfl, ⟨rfl, ⟨rfl, ⟨rfl, ⟨rfl, trivial⟩⟩⟩⟩⟩⟩⟩⟩⟩⟩⟩⟩
noncomputable def n_wec7_64 : List (Option wE) := [some (4, 299, 50, 212, 0), some (11, 212, 0, 0, 0), some (12, 212, 0, 0, 0), some (13, 212, 0, 0, 0), some (4, 185, 209, 208, 0), none, some (11, 208, 0, 0, 0), some (13, 208, 0, 0, 0), some (4, 185, 199, 209, 0), none, some (11, 209, 0, 0, 0), some (13, 209, 0, 0, 0), some (4, 185, 203, 210, 0), none, some (11, 210, 0, 0, 0), some (13, 210, 0, 0, 0)]
theorem n_wec7_64_ok : okL n_wec7_64 lw_c7_64.1 := ⟨rfl, ⟨rfl, ⟨rfl, ⟨rfl, ⟨rfl, ⟨rfl, ⟨rfl, ⟨rfl, ⟨rfl, ⟨rfl, ⟨rfl, ⟨rfl, ⟨rfl, trivial⟩⟩⟩⟩⟩⟩⟩⟩⟩⟩⟩⟩⟩
noncomputable def n_wec7_80 : List (Option wE) := [some (4, 185, 206, 211, 0), none, some (11, 211, 0, 0, 0), some (13, 211, 0, 0, 0), some (4, 185, 225, 213, 0), none, some (11, 213, 0, 0, 0), some (13, 213, 0, 0, 0), some (4, 299, 56, 218, 0), some (11, 218, 0, 0, 0), some (12, 218, 0, 0, 0), some (13, 218, 0, 0, 0), some (4, 185, 250, 190, 0), none, some (11, 190, 0, 0, 0), some (13, 190, 0, 0, 0)]
theorem n_wec7_80_ok : okL n_wec7_80 lw_c7_80.1 := ⟨rfl, ⟨rfl, ⟨rfl, ⟨rfl, ⟨rfl, ⟨rfl, ⟨rfl, ⟨rfl, ⟨rfl, ⟨rfl, ⟨rfl, ⟨rfl, ⟨rfl, trivial⟩⟩⟩⟩⟩⟩⟩⟩⟩⟩⟩⟩⟩
noncomputable def n_wec7_96 : List (Option wE) := [some (4, 185, 254, 188, 0), none, some (11, 188, 0, 0, 0), some (13, 188, 0, 0, 0), some (4, 185, 257, 216, 0), none, some (11, 216, 0, 0, 0), some (13, 216, 0, 0, 0), some (4, 185, 246, 215, 0), none, some (11, 215, 0, 0, 0), some (13, 215, 0, 0, 0), some (4, 185, 242, 214, 0), none, some (11, 214, 0, 0, 0), some (13, 214, 0, 0, 0)]
theorem n_wec7_96_ok : okL n_wec7_96 lw_c7_96.1 := ⟨rfl, ⟨rfl, ⟨rfl, ⟨rfl, ⟨rfl, ⟨rfl, ⟨rfl, ⟨rfl, ⟨rfl, ⟨rfl, ⟨rfl, ⟨rfl, trivial⟩⟩⟩⟩⟩⟩⟩⟩⟩⟩⟩⟩
noncomputable def n_wec7_112 : List (Option wE) := [some (4, 185, 234, 294, 0), some (4, 185, 239, 295, 0), some (4, 299, 59, 219, 0), some (11, 219, 0, 0, 0), some (12, 219, 0, 0, 0), some (13, 219, 0, 0, 0), some (4, 185, 260, 191, 0), none, some (11, 191, 0, 0, 0), some (13, 191, 0, 0, 0), some (4, 185, 263, 217, 0), none, some (11, 217, 0, 0, 0), some (13, 217, 0, 0, 0), some (4, 299, 63, 220, 0), some (11, 220, 0, 0, 0)]
theorem n_wec7_112_ok : okL n_wec7_112 lw_c7_112.1 := ⟨rfl, ⟨rfl, ⟨rfl, ⟨rfl, ⟨rfl, ⟨rfl, ⟨rfl, ⟨rfl, ⟨rfl, ⟨rfl, ⟨rfl, ⟨rfl, ⟨rfl, ⟨rfl, trivial⟩⟩⟩⟩⟩⟩⟩⟩⟩⟩⟩⟩⟩⟩
noncomputable def n_wec7_128 : List (Option wE) := [some (12, 220, 0, 0, 0), some (13, 220, 0, 0, 0), some (4, 185, 267, 193, 0), some (10, 193, 0, 0, 0), some (13, 193, 0, 0, 0), some (4, 299, 68, 221, 0), some (11, 221, 0, 0, 0), some (12, 221, 0, 0, 0), some (13, 221, 0, 0, 0), some (4, 185, 270, 192, 0), some (10, 192, 0, 0, 0), some (13, 192, 0, 0, 0), some (4, 299, 72, 222, 0), some (11, 222, 0, 0, 0), some (12, 222, 0, 0, 0), some (13, 222, 0, 0, 0)]
theorem n_wec7_128_ok : okL n_wec7_128 lw_c7_128.1 := ⟨rfl, ⟨rfl, ⟨rfl, ⟨rfl, ⟨rfl, ⟨rfl, ⟨rfl, ⟨rfl, ⟨rfl, ⟨rfl, ⟨rfl, ⟨rfl, ⟨rfl, ⟨rfl, ⟨rfl, ⟨rfl, trivial⟩⟩⟩⟩⟩⟩⟩⟩⟩⟩⟩⟩⟩⟩⟩⟩
noncomputable def n_wec7_144 : List (Option wE) := [some (4, 299, 77, 223, 0), some (11, 223, 0, 0, 0), some (12, 223, 0, 0, 0), some (13, 223, 0, 0, 0), some (4, 299, 81, 231, 0), some (11, 231, 0, 0, 0), some (12, 231, 0, 0, 0), some (13, 231, 0, 0, 0), some (4, 185, 290, 230, 0), none, some (11, 230, 0, 0, 0), some (13, 230, 0, 0, 0), some (4, 185, 293, 229, 0), none, some (11, 229, 0, 0, 0), some (13, 229, 0, 0, 0)]
theorem n_wec7_144_ok : okL n_wec7_144 lw_c7_144.1 := ⟨rfl, ⟨rfl, ⟨rfl, ⟨rfl, ⟨rfl, ⟨rfl, ⟨rfl, ⟨rfl, ⟨rfl, ⟨rfl, ⟨rfl, ⟨rfl, ⟨rfl, ⟨rfl, trivial⟩⟩⟩⟩⟩⟩⟩⟩⟩⟩⟩⟩⟩⟩
noncomputable def n_wec7_160 : List (Option wE) := [some (4, 185, 286, 228, 0), some (10, 228, 0, 0, 0), some (13, 228, 0, 0, 0), some (4, 299, 85, 232, 0), some (11, 232, 0, 0, 0), some (12, 232, 0, 0, 0), some (13, 232, 0, 0, 0), some (4, 299, 89, 234, 0), some (11, 234, 0, 0, 0), some (12, 234, 0, 0, 0), some (13, 234, 0, 0, 0), some (4, 185, 300, 224, 0), none, some (11, 224, 0, 0, 0), some (13, 224, 0, 0, 0), some (4, 185, 303, 226, 0)]
theorem n_wec7_160_ok : okL n_wec7_160 lw_c7_160.1 := ⟨rfl, ⟨rfl, ⟨rfl, ⟨rfl, ⟨rfl, ⟨rfl, ⟨rfl, ⟨rfl, ⟨rfl, ⟨rfl, ⟨rfl, ⟨rfl, ⟨rfl, ⟨rfl, ⟨rfl, trivial⟩⟩⟩⟩⟩⟩⟩⟩⟩⟩⟩⟩⟩⟩⟩
noncomputable def n_wec7_176 : List (Option wE) := [none, some (11, 226, 0, 0, 0), some (13, 226, 0, 0, 0), some (4, 185, 282, 227, 0), some (10, 227, 0, 0, 0), some (13, 227, 0, 0, 0), some (4, 185, 307, 225, 0), none, some (11, 225, 0, 0, 0), some (13, 225, 0, 0, 0), some (4, 185, 310, 233, 0), none, some (11, 233, 0, 0, 0), some (13, 233, 0, 0, 0), some (4, 185, 297, 189, 0)]
theorem n_wec7_176_ok : okL n_wec7_176 lw_c7_176.1 := ⟨rfl, ⟨rfl, ⟨rfl, ⟨rfl, ⟨rfl, ⟨rfl, ⟨rfl, ⟨rfl, ⟨rfl, ⟨rfl, ⟨rfl, ⟨rfl, trivial⟩⟩⟩⟩⟩⟩⟩⟩⟩⟩⟩⟩
noncomputable def n_wec7_192 : List (Option wE) := [some (11, 189, 0, 0, 0), some (13, 189, 0, 0, 0), some (4, 299, 93, 236, 0), some (11, 236, 0, 0, 0), some (12, 236, 0, 0, 0), some (13, 236, 0, 0, 0), some (4, 185, 313, 237, 0), some (11, 237, 0, 0, 0), some (12, 237, 0, 0, 0), some (13, 237, 0, 0, 0), some (4, 185, 316, 235, 0), none, some (11, 235, 0, 0, 0), some (13, 235, 0, 0, 0), some (4, 299, 97, 237, 0), some (4, 299, 101, 238, 0)]
theorem n_wec7_192_ok : okL n_wec7_192 lw_c7_192.1 := ⟨rfl, ⟨rfl, ⟨rfl, ⟨rfl, ⟨rfl, ⟨rfl, ⟨rfl, ⟨rfl, ⟨rfl, ⟨rfl, ⟨rfl, ⟨rfl, ⟨rfl, ⟨rfl, ⟨rfl, trivial⟩⟩⟩⟩⟩⟩⟩⟩⟩⟩⟩⟩⟩⟩⟩
noncomputable def n_wec7_208 : List (Option wE) := [some (11, 238, 0, 0, 0), some (12, 238, 0, 0, 0), some (13, 238, 0, 0, 0), some (4, 185, 319, 239, 0), none, some (11, 239, 0, 0, 0), some (13, 239, 0, 0, 0), some (4, 185, 322, 240, 0), none, some (11, 240, 0, 0, 0), some (13, 240, 0, 0, 0), some (4, 299, 105, 241, 0), some (11, 241, 0, 0, 0), some (12, 241, 0, 0, 0), some (13, 241, 0, 0, 0), some (4, 299, 109, 242, 0)]
theorem n_wec7_208_ok : okL n_wec7_208 lw_c7_208.1 := ⟨rfl, ⟨rfl, ⟨rfl, ⟨rfl, ⟨rfl, ⟨rfl, ⟨rfl, ⟨rfl, ⟨rfl, ⟨rfl, ⟨rfl, ⟨rfl, ⟨rfl, ⟨rfl, trivial⟩⟩⟩⟩⟩⟩⟩⟩⟩⟩⟩⟩⟩⟩
noncomputable def n_wec7_224 : List (Option wE) := [some (11, 242, 0, 0, 0), some (12, 242, 0, 0, 0), some (13, 242, 0, 0, 0), some (4, 299, 116, 244, 0), some (11, 244, 0, 0, 0), some (12, 244, 0, 0, 0), some (13, 244, 0, 0, 0), some (4, 185, 325, 243, 0), none, some (11, 243, 0, 0, 0), some (13, 243, 0, 0, 0), some (4, 299, 120, 247, 0), some (11, 247, 0, 0, 0), some (12, 247, 0, 0, 0), some (13, 247, 0, 0, 0), some (4, 185, 342, 246, 0)]
theorem n_wec7_224_ok : okL n_wec7_224 lw_c7_224.1 := ⟨rfl, ⟨rfl, ⟨rfl, ⟨rfl, ⟨rfl, ⟨rfl, ⟨rfl, ⟨rfl, ⟨rfl, ⟨rfl, ⟨rfl, ⟨rfl, ⟨rfl, ⟨rfl, ⟨rfl, trivial⟩⟩⟩⟩⟩⟩⟩⟩⟩⟩⟩⟩⟩⟩⟩
noncomputable def n_wec8_0 : List (Option wE) := [none, some (11, 246, 0, 0, 0), some (13, 246, 0, 0, 0), some (4, 185, 328, 245, 0), none, some (11, 245, 0, 0, 0), some (13, 245, 0, 0, 0), some (4, 185, 334, 292, 0), some (10, 292, 0, 0, 0), some (13, 292, 0, 0, 0), some (8, 292, 264, 0, 65536), some (4, 299, 124, 248, 0), some (11, 248, 0, 0, 0), some (12, 248, 0, 0, 0), some (13, 248, 0, 0, 0), some (4, 185, 345, 187, 0)]
theorem n_wec8_0_ok : okL n_wec8_0 lw_c8_0.1 := ⟨rfl, ⟨rfl, ⟨rfl, ⟨rfl, ⟨rfl, ⟨rfl, ⟨rfl, ⟨rfl, ⟨rfl, ⟨rfl, ⟨rfl, ⟨rfl, ⟨rfl, ⟨rfl, trivial⟩⟩⟩⟩⟩⟩⟩⟩⟩⟩⟩⟩⟩⟩
noncomputable def n_wec8_16 : List (Option wE) := [some (10, 187, 0, 0, 0), some (13, 187, 0, 0, 0), some (4, 299, 128, 249, 0), some (11, 249, 0, 0, 0), some (12, 249, 0, 0, 0), some (13, 249, 0, 0, 0), some (4, 299, 132, 250, 0), some (11, 250, 0, 0, 0), some (12, 250, 0, 0, 0), some (13, 250, 0, 0, 0), some (4, 185, 349, 194, 0), some (10, 194, 0, 0, 0), some (13, 194, 0, 0, 0), some (8, 185, 352, 0, 100000000), some (4, 299, 136, 251, 0), some (11, 251, 0, 0, 0)]
theorem n_wec8_16_ok : okL n_wec8_16 lw_c8_16.1 := ⟨rfl, ⟨rfl, ⟨rfl, ⟨rfl, ⟨rfl, ⟨rfl, ⟨rfl, ⟨rfl, ⟨rfl, ⟨rfl, ⟨rfl, ⟨rfl, ⟨rfl, ⟨rfl, ⟨rfl, ⟨rfl, trivial⟩⟩⟩⟩⟩⟩⟩⟩⟩⟩⟩⟩⟩⟩⟩⟩
noncomputable def n_wec8_32 : List (Option wE) := [some (12, 251, 0, 0, 0), some (13, 251, 0, 0, 0), some (4, 299, 140, 253, 0), some (11, 253, 0, 0, 0), some (12, 253, 0, 0, 0), some (13, 253, 0, 0, 0), some (4, 185, 353, 252, 0), none, some (11, 252, 0, 0, 0), some (13, 252, 0, 0, 0), some (4, 299, 144, 254, 0), some (11, 254, 0, 0, 0), some (12, 254, 0, 0, 0), some (13, 254, 0, 0, 0), some (4, 299, 148, 255, 0), some (11, 255, 0, 0, 0)]
theorem n_wec8_32_ok : okL n_wec8_32 lw_c8_32.1 := ⟨rfl, ⟨rfl, ⟨rfl, ⟨rfl, ⟨rfl, ⟨rfl, ⟨rfl, ⟨rfl, ⟨rfl, ⟨rfl, ⟨rfl, ⟨rfl, ⟨rfl, ⟨rfl, ⟨rfl, trivial⟩⟩⟩⟩⟩⟩⟩⟩⟩⟩⟩⟩⟩⟩⟩
noncomputable def n_wec8_48 : List (Option wE) := [some (12, 255, 0, 0, 0), some (13, 255, 0, 0, 0), some (4, 299, 152, 258, 0), some (11, 258, 0, 0, 0), some (12, 258, 0, 0, 0), some (13, 258, 0, 0, 0), some (4, 185, 369, 257, 0), none, some (11, 257, 0, 0, 0), some (13, 257, 0, 0, 0), some (4, 185, 358, 256, 0), none, some (11, 256, 0, 0, 0), some (13, 256, 0, 0, 0), some (9, 185, 356, 0, 1000000), some (9, 185, 364, 0, 9223372036854775807)]
theorem n_wec8_48_ok : okL n_wec8_48 lw_c8_48.1 := ⟨rfl, ⟨rfl, ⟨rfl, ⟨rfl, ⟨rfl, ⟨rfl, ⟨rfl, ⟨rfl, ⟨rfl, ⟨rfl, ⟨rfl, ⟨rfl, ⟨rfl, ⟨rfl, trivial⟩⟩⟩⟩⟩⟩⟩⟩⟩⟩⟩⟩⟩⟩
noncomputable def n_wec8_64 : List (Option wE) := [some (4, 185, 366, 296, 0), some (10, 296, 0, 0, 0), some (13, 296, 0, 0, 0), some (4, 299, 156, 259, 0), some (11, 259, 0, 0, 0), some (12, 259, 0, 0, 0), some (13, 259, 0, 0, 0), some (4, 299, 160, 260, 0), some (11, 260, 0, 0, 0), some (12, 260, 0, 0, 0), some (13, 260, 0, 0, 0), some (4, 185, 373, 293, 0), some (4, 299, 164, 262, 0), some (11, 262, 0, 0, 0), some (12, 262, 0, 0, 0), some (13, 262, 0, 0, 0)]
theorem n_wec8_64_ok : okL n_wec8_64 lw_c8_64.1 := ⟨rfl, ⟨rfl, ⟨rfl, ⟨rfl, ⟨rfl, ⟨rfl, ⟨rfl, ⟨rfl, ⟨rfl, ⟨rfl, ⟨rfl, ⟨rfl, ⟨rfl, ⟨rfl, ⟨rfl, ⟨rfl, trivial⟩⟩⟩⟩⟩⟩⟩⟩⟩⟩⟩⟩⟩⟩⟩⟩
noncomputable def n_wec8_80 : List (Option wE) := [some (4, 185, 376, 261, 0), none, some (11, 261, 0, 0, 0), some (13, 261, 0, 0, 0), some (4, 299, 168, 264, 0), some (11, 264, 0, 0, 0), some (12, 264, 0, 0, 0), some (13, 264, 0, 0, 0), some (4, 185, 382, 263, 0), none, some (11, 263, 0, 0, 0), some (13, 263, 0, 0, 0), some (4, 299, 172, 266, 0), some (11, 266, 0, 0, 0), some (12, 266, 0, 0, 0), some (13, 266, 0, 0, 0)]
theorem n_wec8_80_ok : okL n_wec8_80 lw_c8_80.1 := ⟨rfl, ⟨rfl, ⟨rfl, ⟨rfl, ⟨rfl, ⟨rfl, ⟨rfl, ⟨rfl, ⟨rfl, ⟨rfl, ⟨rfl, ⟨rfl, ⟨rfl, ⟨rfl, trivial⟩⟩⟩⟩⟩⟩⟩⟩⟩⟩⟩⟩⟩⟩
noncomputable def n_wec8_96 : List (Option wE) := [some (4, 185, 386, 265, 0), none, some (11, 265, 0, 0, 0), some (13, 265, 0, 0, 0), some (4, 299, 176, 271, 0), some (11, 271, 0, 0, 0), some (12, 271, 0, 0, 0), some (13, 271, 0, 0, 0), some (4, 185, 398, 267, 0), none, some (11, 267, 0, 0, 0), some (13, 267, 0, 0, 0), some (4, 185, 401, 270, 0), none, some (11, 270, 0, 0, 0), some (13, 270, 0, 0, 0)]
theorem n_wec8_96_ok : okL n_wec8_96 lw_c8_96.1 := ⟨rfl, ⟨rfl, ⟨rfl, ⟨rfl, ⟨rfl, ⟨rfl, ⟨rfl, ⟨rfl, ⟨rfl, ⟨rfl, ⟨rfl, ⟨rfl, ⟨rfl, trivial⟩⟩⟩⟩⟩⟩⟩⟩⟩⟩⟩⟩⟩
noncomputable def n_wec8_112 : List (Option wE) := [some (4, 185, 395, 269, 0), none, some (11, 269, 0, 0, 0), some (13, 269, 0, 0, 0), some (4, 185, 392, 268, 0), none, some (11, 268, 0, 0, 0), some (13, 268, 0, 0, 0), some (4, 299, 180, 272, 0), some (11, 272, 0, 0, 0), some (12, 272, 0, 0, 0), some (13, 272, 0, 0, 0), some (4, 299, 184, 273, 0), some (11, 273, 0, 0, 0), some (12, 273, 0, 0, 0), some (13, 273, 0, 0, 0)]
theorem n_wec8_112_ok : okL n_wec8_112 lw_c8_112.1 := ⟨rfl, ⟨rfl, ⟨rfl, ⟨rfl, ⟨rfl, ⟨rfl, ⟨rfl, ⟨rfl, ⟨rfl, ⟨rfl, ⟨rfl, ⟨rfl, ⟨rfl, ⟨rfl, trivial⟩⟩⟩⟩⟩⟩⟩⟩⟩⟩⟩⟩⟩⟩
noncomputable def n_wec8_128 : List (Option wE) := [some (4, 299, 188, 274, 0), some (11, 274, 0, 0, 0), some (12, 274, 0, 0, 0), some (13, 274, 0, 0, 0), some (4, 299, 192, 275, 0), some (11, 275, 0, 0, 0), some (12, 275, 0, 0, 0), some (13, 275, 0, 0, 0), some (4, 185, 407, 297, 0), some (4, 299, 196, 276, 0), some (11, 276, 0, 0, 0), some (12, 276, 0, 0, 0), some (13, 276, 0, 0, 0), some (4, 299, 200, 277, 0), some (11, 277, 0, 0, 0), some (12, 277, 0, 0, 0)]
theorem n_wec8_128_ok : okL n_wec8_128 lw_c8_128.1 := ⟨rfl, ⟨rfl, ⟨rfl, ⟨rfl, ⟨rfl, ⟨rfl, ⟨rfl, ⟨rfl, ⟨rfl, ⟨rfl, ⟨rfl, ⟨rfl, ⟨rfl, ⟨rfl, ⟨rfl, ⟨rfl, trivial⟩⟩⟩⟩⟩⟩⟩⟩⟩⟩⟩⟩⟩⟩⟩⟩
noncomputable def n_wec8_144 : List (Option wE) := [some (13, 277, 0, 0, 0), some (4, 299, 204, 278, 0), some (11, 278, 0, 0, 0), some (12, 278, 0, 0, 0), some (13, 278, 0, 0, 0), some (4, 299, 208, 279, 0), some (11, 279, 0, 0, 0), some (12, 279, 0, 0, 0), some (13, 279, 0, 0, 0), some (4, 299, 212, 281, 0), some (11, 281, 0, 0, 0), some (12, 281, 0, 0, 0), some (13, 281, 0, 0, 0), some (4, 185, 416, 280, 0), none, some (11, 280, 0, 0, 0)]
theorem n_wec8_144_ok : okL n_wec8_144 lw_c8_144.1 := ⟨rfl, ⟨rfl, ⟨rfl, ⟨rfl, ⟨rfl, ⟨rfl, ⟨rfl, ⟨rfl, ⟨rfl, ⟨rfl, ⟨rfl, ⟨rfl, ⟨rfl, ⟨rfl, ⟨rfl, trivial⟩⟩⟩⟩⟩⟩⟩⟩⟩⟩⟩⟩⟩⟩⟩
noncomputable def n_wec8_160 : List (Option wE) := [some (13, 280, 0, 0, 0), some (4, 299, 216, 283, 0), some (11, 283, 0, 0, 0), some (12, 283, 0, 0, 0), some (13, 283, 0, 0, 0), some (4, 185, 419, 282, 0), none, some (11, 282, 0, 0, 0), some (13, 282, 0, 0, 0), some (4, 299, 220, 285, 0), some (11, 285, 0, 0, 0), some (12, 285, 0, 0, 0), some (13, 285, 0, 0, 0), some (4, 185, 425, 284, 0), none, some (11, 284, 0, 0, 0)]
theorem n_wec8_160_ok : okL n_wec8_160 lw_c8_160.1 := ⟨rfl, ⟨rfl, ⟨rfl, ⟨rfl, ⟨rfl, ⟨rfl, ⟨rfl, ⟨rfl, ⟨rfl, ⟨rfl, ⟨rfl, ⟨rfl, ⟨rfl, ⟨rfl, trivial⟩⟩⟩⟩⟩⟩⟩⟩⟩⟩⟩⟩⟩⟩
noncomputable def n_wec8_176 : List (Option wE) := [some (13, 284, 0, 0, 0), some (4, 299, 224, 286, 0), some (11, 286, 0, 0, 0), some (12, 286, 0, 0, 0), some (13, 286, 0, 0, 0), some (8, 185, 429, 0, 1103515245), some (4, 299, 228, 287, 0), some (11, 287, 0, 0, 0), some (12, 287, 0, 0, 0), some (13, 287, 0, 0, 0), some (4, 299, 232, 288, 0), some (11, 288, 0, 0, 0), some (12, 288, 0, 0, 0), some (13, 288, 0, 0, 0), some (4, 299, 236, 290, 0), some (11, 290, 0, 0, 0)]
theorem n_wec8_176_ok : okL n_wec8_176 lw_c8_176.1 := ⟨rfl, ⟨rfl, ⟨rfl, ⟨rfl, ⟨rfl, ⟨rfl, ⟨rfl, ⟨rfl, ⟨rfl, ⟨rfl, ⟨rfl, ⟨rfl, ⟨rfl, ⟨rfl, ⟨rfl, ⟨rfl, trivial⟩⟩⟩⟩⟩⟩⟩⟩⟩⟩⟩⟩⟩⟩⟩⟩
noncomputable def n_wec8_192 : List (Option wE) := [some (12, 290, 0, 0, 0), some (13, 290, 0, 0, 0), some (4, 185, 430, 289, 0), none, some (11, 289, 0, 0, 0), some (13, 289, 0, 0, 0), some (8, 185, 433, 0, -100000), some (4, 299, 239, 291, 0), some (11, 291, 0, 0, 0), some (12, 291, 0, 0, 0), some (13, 291, 0, 0, 0)]
theorem n_wec8_192_ok : okL n_wec8_192 lw_c8_192.1 := ⟨rfl, ⟨rfl, ⟨rfl, ⟨rfl, ⟨rfl, ⟨rfl, ⟨rfl, ⟨rfl, ⟨rfl, ⟨rfl, trivial⟩⟩⟩⟩⟩⟩⟩⟩⟩⟩
noncomputable def n_wec8_208 : List (Option wE) := []
theorem n_wec8_208_ok : okL n_wec8_208 lw_c8_208.1 := trivial
noncomputable def n_we (i : Nat) : Option wE := (bif Nat.blt i 978 then (bif Nat.blt i 482 then (bif Nat.blt i 226 then (bif Nat.blt i 98 then (bif Nat.blt i 48 then (bif Nat.blt i 16 then n_wec0_0[i - 0]?.join else (bif Nat.blt i 32 then n_wec0_16[i - 16]?.join else n_wec0_32[i - 32]?.join)) else (bif Nat.blt i 66 then (bif Nat.blt i 64 then n_wec0_48[i - 48]?.join else n_wec0_64[i - 64]?.join) else (bif Nat.blt i 82 then n_wec1_0[i - 66]?.join else n_wec1_16[i - 82]?.join))) else (bif Nat.blt i 162 then (bif Nat.blt i 130 then (bif Nat.blt i 114 then n_wec1_32[i - 98]?.join else n_wec1_48[i - 114]?.join) else (bif Nat.blt i 146 then n_wec1_64[i - 130]?.join else n_wec1_80[i - 146]?.join)) else (bif Nat.blt i 194 then (bif Nat.blt i 178 then n_wec1_96[i - 162]?.join else n_wec1_112[i - 178]?.join) else (bif Nat.blt i 210 then n_wec1_128[i - 194]?.join else n_wec1_144[i - 210]?.join)))) else (bif Nat.blt i 354 then (bif Nat.blt i 290 then (bif Nat.blt i 258 then (bif Nat.blt i 242 then n_wec1_160[i - 226]?.join else n_wec1_176[i - 242]?.join) else (bif Nat.blt i 274 then n_wec1_192[i - 258]?.join else n_wec1_208[i - 274]?.join)) else (bif Nat.blt i 322 then (bif Nat.blt i 306 then n_wec1_224[i - 290]?.join else n_wec2_0[i - 306]?.join) else (bif Nat.blt i 338 then n_wec2_16[i - 322]?.join else n_wec2_32[i - 338]?.join))) else (bif Nat.blt i 418 then (bif Nat.blt i 386 then (bif Nat.blt i 370 then n_wec2_48[i - 354]?.join else n_wec2_64[i - 370]?.join) else (bif Nat.blt i 402 then n_wec2_80[i - 386]?.join else n_wec2_96[i - 402]?.join)) else (bif Nat.blt i 450 then (bif Nat.blt i 434 then n_wec2_112[i - 418]?.join else n_wec2_128[i - 434]?.join) else (bif Nat.blt i 466 then n_wec2_144[i - 450]?.join else n_wec2_160[i - 466]?.join))))) else (bif Nat.blt i 722 then (bif Nat.blt i 594 then (bif Nat.blt i 530 then (bif Nat.blt i 498 then n_wec2_176[i - 482]?.join else (bif Nat.blt i 514 then n_wec2_192[i - 498]?.join else n_wec2_208[i - 514]?.join)) else (bif Nat.blt i 562 then (bif Nat.blt i 546 then n_wec2_224[i - 530]?.join else n_wec3_0[i - 546]?.join) else (bif Nat.blt i 578 then n_wec3_16[i - 562]?.join else n_wec3_32[i - 578]?.join))) else (bif Nat.blt i 658 then (bif Nat.blt i 626 then (bif Nat.blt i 610 then n_wec3_48[i - 594]?.join else n_wec3_64[i - 610]?.join) else (bif Nat.blt i 642 then n_wec3_80[i - 626]?.join else n_wec3_96[i - 642]?.join)) else (bif Nat.blt i 690 then (bif Nat.blt i 674 then n_wec3_112[i - 658]?.join else n_wec3_128[i - 674]?.join) else (bif Nat.blt i 706 then n_wec3_144[i - 690]?.join else n_wec3_160[i - 706]?.join)))) else (bif Nat.blt i 850 then (bif Nat.blt i 786 then (bif Nat.blt i 754 then (bif Nat.blt i 738 then n_wec3_176[i - 722]?.join else n_wec3_192[i - 738]?.join) else (bif Nat.blt i 770 then n_wec3_208[i - 754]?.join else n_wec3_224[i - 770]?.join)) else (bif Nat.blt i 818 then (bif Nat.blt i 802 then n_wec4_0[i - 786]?.join else n_wec4_16[i - 802]?.join) else (bif Nat.blt i 834 then n_wec4_32[i - 818]?.join else n_wec4_48[i - 834]?.join))) else (bif Nat.blt i 914 then (bif Nat.blt i 882 then (bif Nat.blt i 866 then n_wec4_64[i - 850]?.join else n_wec4_80[i - 866]?.join) else (bif Nat.blt i 898 then n_wec4_96[i - 882]?.join else n_wec4_112[i - 898]?.join)) else (bif Nat.blt i 946 then (bif Nat.blt i 930 then n_wec4_128[i - 914]?.join else n_wec4_144[i - 930]?.join) else (bif Nat.blt i 962 then n_wec4_160[i - 946]?.join else n_wec4_176[i - 962]?.join)))))) else (bif Nat.blt i 1474 then (bif Nat.blt i 1218 then (bif Nat.blt i 1090 then (bif Nat.blt i 1026 then (bif Nat.blt i 994 then n_wec4_192[i - 978]?.join else (bif Nat.blt i 1010 then n_wec4_208[i - 994]?.join else n_wec4_224[i - 1010]?.join)) else (bif Nat.blt i 1058 then (bif Nat.blt i 1042 then n_wec5_0[i - 1026]?.join else n_wec5_16[i - 1042]?.join) else (bif Nat.blt i 1074 then n_wec5_32[i - 1058]?.join else n_wec5_48[i - 1074]?.join))) else (bif Nat.blt i 1154 then (bif Nat.blt i 1122 then (bif Nat.blt i 1106 then n_wec5_64[i - 1090]?.join else n_wec5_80[i - 1106]?.join) else (bif Nat.blt i 1138 then n_wec5_96[i - 1122]?.join else n_wec5_112[i - 1138]?.join)) else (bif Nat.blt i 1186 then (bif Nat.blt i 1170 then n_wec5_128[i - 1154]?.join else n_wec5_144[i - 1170]?.join) else (bif Nat.blt i 1202 then n_wec5_160[i - 1186]?.join else n_wec5_176[i - 1202]?.join)))) else (bif Nat.blt i 1346 then (bif Nat.blt i 1282 then (bif Nat.blt i 1250 then (bif Nat.blt i 1234 then n_wec5_192[i - 1218]?.join else n_wec5_208[i - 1234]?.join) else (bif Nat.blt i 1266 then n_wec5_224[i - 1250]?.join else n_wec6_0[i - 1266]?.join)) else (bif Nat.blt i 1314 then (bif Nat.blt i 1298 then n_wec6_16[i - 1282]?.join else n_wec6_32[i - 1298]?.join) else (bif Nat.blt i 1330 then n_wec6_48[i - 1314]?.join else n_wec6_64[i - 1330]?.join))) else (bif Nat.blt i 1410 then (bif Nat.blt i 1378 then (bif Nat.blt i 1362 then n_wec6_80[i - 1346]?.join else n_wec6_96[i - 1362]?.join) else (bif Nat.blt i 1394 then n_wec6_112[i - 1378]?.join else n_wec6_128[i - 1394]?.join)) else (bif Nat.blt i 1442 then (bif Nat.blt i 1426 then n_wec6_144[i - 1410]?.join else n_wec6_160[i - 1426]?.join) else (bif Nat.blt i 1458 then n_wec6_176[i - 1442]?.join else n_wec6_192[i - 1458]?.join))))) else (bif Nat.blt i 1714 then (bif Nat.blt i 1586 then (bif Nat.blt i 1522 then (bif Nat.blt i 1490 then n_wec6_208[i - 1474]?.join else (bif Nat.blt i 1506 then n_wec6_224[i - 1490]?.join else n_wec7_0[i - 1506]?.join)) else (bif Nat.blt i 1554 then (bif Nat.blt i 1538 then n_wec7_16[i - 1522]?.join else n_wec7_32[i - 1538]?.join) else (bif Nat.blt i 1570 then n_wec7_48[i - 1554]?.join else n_wec7_64[i - 1570]?.join))) else (bif Nat.blt i 1650 then (bif Nat.blt i 1618 then (bif Nat.blt i 1602 then n_wec7_80[i - 1586]?.join else n_wec7_96[i - 1602]?.join) else (bif Nat.blt i 1634 then n_wec7_112[i - 1618]?.join else n_wec7_128[i - 1634]?.join)) else (bif Nat.blt i 1682 then (bif Nat.blt i 1666 then n_wec7_144[i - 1650]?.join else n_wec7_160[i - 1666]?.join) else (bif Nat.blt i 1698 then n_wec7_176[i - 1682]?.join else n_wec7_192[i - 1698]?.join)))) else (bif Nat.blt i 1842 then (bif Nat.blt i 1778 then (bif Nat.blt i 1746 then (bif Nat.blt i 1730 then n_wec7_208[i - 1714]?.join else n_wec7_224[i - 1730]?.join) else (bif Nat.blt i 1762 then n_wec8_0[i - 1746]?.join else n_wec8_16[i - 1762]?.join)) else (bif Nat.blt i 1810 then (bif Nat.blt i 1794 then n_wec8_32[i - 1778]?.join else n_wec8_48[i - 1794]?.join) else (bif Nat.blt i 1826 then n_wec8_64[i - 1810]?.join else n_wec8_80[i - 1826]?.join))) else (bif Nat.blt i 1906 then (bif Nat.blt i 1874 then (bif Nat.blt i 1858 then n_wec8_96[i - 1842]?.join else n_wec8_112[i - 1858]?.join) else (bif Nat.blt i 1890 then n_wec8_128[i - 1874]?.join else n_wec8_144[i - 1890]?.join)) else (bif Nat.blt i 1938 then (bif Nat.blt i 1922 then n_wec8_160[i - 1906]?.join else n_wec8_176[i - 1922]?.join) else (bif Nat.blt i 1954 then n_wec8_192[i - 1938]?.join else n_wec8_208[i - 1954]?.join)))))))
theorem n_weO (i : Nat) (e : wE) : n_we i = some e → lw_g i = some (wOf e) := n_weB (n_weB (n_weB (n_weB (n_weB (n_weB (okL_at (i - 0) n_wec0_0 lw_c0_0.1 n_wec0_0_ok) (n_weB (okL_at (i - 16) n_wec0_16 lw_c0_16.1 n_wec0_16_ok) (okL_at (i - 32) n_wec0_32 lw_c0_32.1 n_wec0_32_ok))) (n_weB (n_weB (okL_at (i - 48) n_wec0_48 lw_c0_48.1 n_wec0_48_ok) (okL_at (i - 64) n_wec0_64 lw_c0_64.1 n_wec0_64_ok)) (n_weB (okL_at (i - 66) n_wec1_0 lw_c1_0.1 n_wec1_0_ok) (okL_at (i - 82) n_wec1_16 lw_c1_16.1 n_wec1_16_ok)))) (n_weB (n_weB (n_weB (okL_at (i - 98) n_wec1_32 lw_c1_32.1 n_wec1_32_ok) (okL_at (i - 114) n_wec1_48 lw_c1_48.1 n_wec1_48_ok)) (n_weB (okL_at (i - 130) n_wec1_64 lw_c1_64.1 n_wec1_64_ok) (okL_at (i - 146) n_wec1_80 lw_c1_80.1 n_wec1_80_ok))) (n_weB (n_weB (okL_at (i - 162) n_wec1_96 lw_c1_96.1 n_wec1_96_ok) (okL_at (i - 178) n_wec1_112 lw_c1_112.1 n_wec1_112_ok)) (n_weB (okL_at (i - 194) n_wec1_128 lw_c1_128.1 n_wec1_128_ok) (okL_at (i - 210) n_wec1_144 lw_c1_144.1 n_wec1_144_ok))))) (n_weB (n_weB (n_weB (n_weB (okL_at (i - 226) n_wec1_160 lw_c1_160.1 n_wec1_160_ok) (okL_at (i - 242) n_wec1_176 lw_c1_176.1 n_wec1_176_ok)) (n_weB (okL_at (i - 258) n_wec1_192 lw_c1_192.1 n_wec1_192_ok) (okL_at (i - 274) n_wec1_208 lw_c1_208.1 n_wec1_208_ok))) (n_weB (n_weB (okL_at (i - 290) n_wec1_224 lw_c1_224.1 n_wec1_224_ok) (okL_at (i - 306) n_wec2_0 lw_c2_0.1 n_wec2_0_ok)) (n_weB (okL_at (i - 322) n_wec2_16 lw_c2_16.1 n_wec2_16_ok) (okL_at (i - 338) n_wec2_32 lw_c2_32.1 n_wec2_32_ok)))) (n_weB (n_weB (n_weB (okL_at (i - 354) n_wec2_48 lw_c2_48.1 n_wec2_48_ok) (okL_at (i - 370) n_wec2_64 lw_c2_64.1 n_wec2_64_ok)) (n_weB (okL_at (i - 386) n_wec2_80 lw_c2_80.1 n_wec2_80_ok) (okL_at (i - 402) n_wec2_96 lw_c2_96.1 n_wec2_96_ok))) (n_weB (n_weB (okL_at (i - 418) n_wec2_112 lw_c2_112.1 n_wec2_112_ok) (okL_at (i - 434) n_wec2_128 lw_c2_128.1 n_wec2_128_ok)) (n_weB (okL_at (i - 450) n_wec2_144 lw_c2_144.1 n_wec2_144_ok) (okL_at (i - 466) n_wec2_160 lw_c2_160.1 n_wec2_160_ok)))))) (n_weB (n_weB (n_weB (n_weB (okL_at (i - 482) n_wec2_176 lw_c2_176.1 n_wec2_176_ok) (n_weB (okL_at (i - 498) n_wec2_192 lw_c2_192.1 n_wec2_192_ok) (okL_at (i - 514) n_wec2_208 lw_c2_208.1 n_wec2_208_ok))) (n_weB (n_weB (okL_at (i - 530) n_wec2_224 lw_c2_224.1 n_wec2_224_ok) (okL_at (i - 546) n_wec3_0 lw_c3_0.1 n_wec3_0_ok)) (n_weB (okL_at (i - 562) n_wec3_16 lw_c3_16.1 n_wec3_16_ok) (okL_at (i - 578) n_wec3_32 lw_c3_32.1 n_wec3_32_ok)))) (n_weB (n_weB (n_weB (okL_at (i - 594) n_wec3_48 lw_c3_48.1 n_wec3_48_ok) (okL_at (i - 610) n_wec3_64 lw_c3_64.1 n_wec3_64_ok)) (n_weB (okL_at (i - 626) n_wec3_80 lw_c3_80.1 n_wec3_80_ok) (okL_at (i - 642) n_wec3_96 lw_c3_96.1 n_wec3_96_ok))) (n_weB (n_weB (okL_at (i - 658) n_wec3_112 lw_c3_112.1 n_wec3_112_ok) (okL_at (i - 674) n_wec3_128 lw_c3_128.1 n_wec3_128_ok)) (n_weB (okL_at (i - 690) n_wec3_144 lw_c3_144.1 n_wec3_144_ok) (okL_at (i - 706) n_wec3_160 lw_c3_160.1 n_wec3_160_ok))))) (n_weB (n_weB (n_weB (n_weB (okL_at (i - 722) n_wec3_176 lw_c3_176.1 n_wec3_176_ok) (okL_at (i - 738) n_wec3_192 lw_c3_192.1 n_wec3_192_ok)) (n_weB (okL_at (i - 754) n_wec3_208 lw_c3_208.1 n_wec3_208_ok) (okL_at (i - 770) n_wec3_224 lw_c3_224.1 n_wec3_224_ok))) (n_weB (n_weB (okL_at (i - 786) n_wec4_0 lw_c4_0.1 n_wec4_0_ok) (okL_at (i - 802) n_wec4_16 lw_c4_16.1 n_wec4_16_ok)) (n_weB (okL_at (i - 818) n_wec4_32 lw_c4_32.1 n_wec4_32_ok) (okL_at (i - 834) n_wec4_48 lw_c4_48.1 n_wec4_48_ok)))) (n_weB (n_weB (n_weB (okL_at (i - 850) n_wec4_64 lw_c4_64.1 n_wec4_64_ok) (okL_at (i - 866) n_wec4_80 lw_c4_80.1 n_wec4_80_ok)) (n_weB (okL_at (i - 882) n_wec4_96 lw_c4_96.1 n_wec4_96_ok) (okL_at (i - 898) n_wec4_112 lw_c4_112.1 n_wec4_112_ok))) (n_weB (n_weB (okL_at (i - 914) n_wec4_128 lw_c4_128.1 n_wec4_128_ok) (okL_at (i - 930) n_wec4_144 lw_c4_144.1 n_wec4_144_ok)) (n_weB (okL_at (i - 946) n_wec4_160 lw_c4_160.1 n_wec4_160_ok) (okL_at (i - 962) n_wec4_176 lw_c4_176.1 n_wec4_176_ok))))))) (n_weB (n_weB (n_weB (n_weB (n_weB (okL_at (i - 978) n_wec4_192 lw_c4_192.1 n_wec4_192_ok) (n_weB (okL_at (i - 994) n_wec4_208 lw_c4_208.1 n_wec4_208_ok) (okL_at (i - 1010) n_wec4_224 lw_c4_224.1 n_wec4_224_ok))) (n_weB (n_weB (okL_at (i - 1026) n_wec5_0 lw_c5_0.1 n_wec5_0_ok) (okL_at (i - 1042) n_wec5_16 lw_c5_16.1 n_wec5_16_ok)) (n_weB (okL_at (i - 1058) n_wec5_32 lw_c5_32.1 n_wec5_32_ok) (okL_at (i - 1074) n_wec5_48 lw_c5_48.1 n_wec5_48_ok)))) (n_weB (n_weB (n_weB (okL_at (i - 1090) n_wec5_64 lw_c5_64.1 n_wec5_64_ok) (okL_at (i - 1106) n_wec5_80 lw_c5_80.1 n_wec5_80_ok)) (n_weB (okL_at (i - 1122) n_wec5_96 lw_c5_96.1 n_wec5_96_ok) (okL_at (i - 1138) n_wec5_112 lw_c5_112.1 n_wec5_112_ok))) (n_weB (n_weB (okL_at (i - 1154) n_wec5_128 lw_c5_128.1 n_wec5_128_ok) (okL_at (i - 1170) n_wec5_144 lw_c5_144.1 n_wec5_144_ok)) (n_weB (okL_at (i - 1186) n_wec5_160 lw_c5_160.1 n_wec5_160_ok) (okL_at (i - 1202) n_wec5_176 lw_c5_176.1 n_wec5_176_ok))))) (n_weB (n_weB (n_weB (n_weB (okL_at (i - 1218) n_wec5_192 lw_c5_192.1 n_wec5_192_ok) (okL_at (i - 1234) n_wec5_208 lw_c5_208.1 n_wec5_208_ok)) (n_weB (okL_at (i - 1250) n_wec5_224 lw_c5_224.1 n_wec5_224_ok) (okL_at (i - 1266) n_wec6_0 lw_c6_0.1 n_wec6_0_ok))) (n_weB (n_weB (okL_at (i - 1282) n_wec6_16 lw_c6_16.1 n_wec6_16_ok) (okL_at (i - 1298) n_wec6_32 lw_c6_32.1 n_wec6_32_ok)) (n_weB (okL_at (i - 1314) n_wec6_48 lw_c6_48.1 n_wec6_48_ok) (okL_at (i - 1330) n_wec6_64 lw_c6_64.1 n_wec6_64_ok)))) (n_weB (n_weB (n_weB (okL_at (i - 1346) n_wec6_80 lw_c6_80.1 n_wec6_80_ok) (okL_at (i - 1362) n_wec6_96 lw_c6_96.1 n_wec6_96_ok)) (n_weB (okL_at (i - 1378) n_wec6_112 lw_c6_112.1 n_wec6_112_ok) (okL_at (i - 1394) n_wec6_128 lw_c6_128.1 n_wec6_128_ok))) (n_weB (n_weB (okL_at (i - 1410) n_wec6_144 lw_c6_144.1 n_wec6_144_ok) (okL_at (i - 1426) n_wec6_160 lw_c6_160.1 n_wec6_160_ok)) (n_weB (okL_at (i - 1442) n_wec6_176 lw_c6_176.1 n_wec6_176_ok) (okL_at (i - 1458) n_wec6_192 lw_c6_192.1 n_wec6_192_ok)))))) (n_weB (n_weB (n_weB (n_weB (okL_at (i - 1474) n_wec6_208 lw_c6_208.1 n_wec6_208_ok) (n_weB (okL_at (i - 1490) n_wec6_224 lw_c6_224.1 n_wec6_224_ok) (okL_at (i - 1506) n_wec7_0 lw_c7_0.1 n_wec7_0_ok))) (n_weB (n_weB (okL_at (i - 1522) n_wec7_16 lw_c7_16.1 n_wec7_16_ok) (okL_at (i - 1538) n_wec7_32 lw_c7_32.1 n_wec7_32_ok)) (n_weB (okL_at (i - 1554) n_wec7_48 lw_c7_48.1 n_wec7_48_ok) (okL_at (i - 1570) n_wec7_64 lw_c7_64.1 n_wec7_64_ok)))) (n_weB (n_weB (n_weB (okL_at (i - 1586) n_wec7_80 lw_c7_80.1 n_wec7_80_ok) (okL_at (i - 1602) n_wec7_96 lw_c7_96.1 n_wec7_96_ok)) (n_weB (okL_at (i - 1618) n_wec7_112 lw_c7_112.1 n_wec7_112_ok) (okL_at (i - 1634) n_wec7_128 lw_c7_128.1 n_wec7_128_ok))) (n_weB (n_weB (okL_at (i - 1650) n_wec7_144 lw_c7_144.1 n_wec7_144_ok) (okL_at (i - 1666) n_wec7_160 lw_c7_160.1 n_wec7_160_ok)) (n_weB (okL_at (i - 1682) n_wec7_176 lw_c7_176.1 n_wec7_176_ok) (okL_at (i - 1698) n_wec7_192 lw_c7_192.1 n_wec7_192_ok))))) (n_weB (n_weB (n_weB (n_weB (okL_at (i - 1714) n_wec7_208 lw_c7_208.1 n_wec7_208_ok) (okL_at (i - 1730) n_wec7_224 lw_c7_224.1 n_wec7_224_ok)) (n_weB (okL_at (i - 1746) n_wec8_0 lw_c8_0.1 n_wec8_0_ok) (okL_at (i - 1762) n_wec8_16 lw_c8_16.1 n_wec8_16_ok))) (n_weB (n_weB (okL_at (i - 1778) n_wec8_32 lw_c8_32.1 n_wec8_32_ok) (okL_at (i - 1794) n_wec8_48 lw_c8_48.1 n_wec8_48_ok)) (n_weB (okL_at (i - 1810) n_wec8_64 lw_c8_64.1 n_wec8_64_ok) (okL_at (i - 1826) n_wec8_80 lw_c8_80.1 n_wec8_80_ok)))) (n_weB (n_weB (n_weB (okL_at (i - 1842) n_wec8_96 lw_c8_96.1 n_wec8_96_ok) (okL_at (i - 1858) n_wec8_112 lw_c8_112.1 n_wec8_112_ok)) (n_weB (okL_at (i - 1874) n_wec8_128 lw_c8_128.1 n_wec8_128_ok) (okL_at (i - 1890) n_wec8_144 lw_c8_144.1 n_wec8_144_ok))) (n_weB (n_weB (okL_at (i - 1906) n_wec8_160 lw_c8_160.1 n_wec8_160_ok) (okL_at (i - 1922) n_wec8_176 lw_c8_176.1 n_wec8_176_ok)) (n_weB (okL_at (i - 1938) n_wec8_192 lw_c8_192.1 n_wec8_192_ok) (okL_at (i - 1954) n_wec8_208 lw_c8_208.1 n_wec8_208_ok)))))))
theorem n_rpA : (List.range 304).all (fun k => decide ((nY (n_rp k)).cls = (nY k).cls)) = true := by decide +kernel
theorem n_rpO {k : Nat} (hk : k < 304) : (nY (n_rp k)).cls = (nY k).cls := of_decide_eq_true (List.all_eq_true.mp n_rpA k (List.mem_range.mpr hk))
end
-- 05c.asm.lean.txt
section
/-! The instructions by an assembler: what the bytes must be for the decoder to read the row. -/
/-- the byte at p is v -/
noncomputable def bat (c : ByteArray) (p v : Nat) : Prop := ∃ h : p < c.size, c[p].toNat = v
noncomputable abbrev Rd (α : Type) : Type := ClassFile.Reader ClassFile.DecodeError α
theorem rd1 {c : ByteArray} {p v : Nat} (b : bat c p v) : (ClassFile.Reader.u1 : Rd Nat) c p = .ok (v, p + 1) := by
  obtain ⟨h, rfl⟩ := b
  show (dite (p < c.size) (fun h => (do set (p + 1); pure c[p].toNat : Rd Nat)) (fun _ => throw (ClassFile.HasTruncated.truncated p)) : Rd Nat) c p = _
  rw [dif_pos h]
  rfl
theorem rdB {α β : Type} {x : Rd α} {f : α → Rd β} {c : ByteArray} {p q : Nat} {a : α} (h : x c p = .ok (a, q)) : (x >>= f) c p = f a c q := by
  show Except.bind (x c p) (fun r => f r.1 c r.2) = _
  rw [h]
  rfl
theorem rdM {α β : Type} {x : Rd α} {f : α → β} {c : ByteArray} {p q : Nat} {a : α} (h : x c p = .ok (a, q)) : (f <$> x) c p = .ok (f a, q) := by
  show Except.bind (x c p) (fun r => Except.ok (f r.1, r.2)) = _
  rw [h]
  rfl
theorem rd2 {c : ByteArray} {p a b : Nat} (h1 : bat c p a) (h2 : bat c (p + 1) b) : (ClassFile.Reader.u2 : Rd Nat) c p = .ok (a * 256 + b, p + 2) :=
  (rdB (rd1 h1)).trans (rdB (rd1 h2))
theorem rds1 {c : ByteArray} {p a : Nat} (h1 : bat c p a) : (ClassFile.Reader.s1 : Rd Int) c p = .ok (ClassFile.Reader.signed 8 a, p + 1) := rdM (rd1 h1)
theorem rds2 {c : ByteArray} {p a b : Nat} (h1 : bat c p a) (h2 : bat c (p + 1) b) : (ClassFile.Reader.s2 : Rd Int) c p = .ok (ClassFile.Reader.signed 16 (a * 256 + b), p + 2) := rdM (rd2 h1 h2)
theorem dcO {c : ByteArray} {p n : Nat} {i : Instr} (h : (ClassFile.Decoder.instr p : Rd Instr) c p = .ok (i, p + n)) : decode c p = .ok (i, n) := by
  show Except.bind ((ClassFile.Decoder.instr p : Rd Instr) c p) (fun r => Except.ok (r.1, r.2 - p)) = _
  rw [h]
  show Except.ok (i, p + n - p) = _
  rw [Nat.add_sub_cancel_left]
/-- what is left of the bytes at p -/
noncomputable def bsat (c : ByteArray) (p : Nat) (bs : List Nat) : Prop := ∀ j v : Nat, bs[j]? = some v → bat c (p + j) v
noncomputable def dk1 (bs : List Nat) (len op : Nat) : Bool := Nat.beq len 1 && (match bs with
  | a :: _ => Nat.beq a op
  | _ => false)
noncomputable def dk2 (bs : List Nat) (len op x : Nat) : Bool := Nat.beq len 2 && (match bs with
  | a :: b :: _ => Nat.beq a op && Nat.beq b x
  | _ => false)
noncomputable def dk2s (bs : List Nat) (len op : Nat) (x : Int) : Bool := Nat.beq len 2 && (match bs with
  | a :: b :: _ => Nat.beq a op && decide (ClassFile.Reader.signed 8 b = x)
  | _ => false)
noncomputable def dk3 (bs : List Nat) (len op x : Nat) : Bool := Nat.beq len 3 && (match bs with
  | a :: b :: d :: _ => Nat.beq a op && Nat.beq (b * 256 + d) x
  | _ => false)
noncomputable def dk3s (bs : List Nat) (len op : Nat) (x : Int) : Bool := Nat.beq len 3 && (match bs with
  | a :: b :: d :: _ => Nat.beq a op && decide (ClassFile.Reader.signed 16 (b * 256 + d) = x)
  | _ => false)
noncomputable def dk3i (bs : List Nat) (len op x : Nat) (y : Int) : Bool := Nat.beq len 3 && (match bs with
  | a :: b :: d :: _ => Nat.beq a op && (Nat.beq b x && decide (ClassFile.Reader.signed 8 d = y))
  | _ => false)
theorem dk1S {c : ByteArray} {p len op : Nat} {bs : List Nat} (h : dk1 bs len op = true) (hb : bsat c p bs) : len = 1 ∧ bat c p op := by
  unfold dk1 at h
  rw [Bool.and_eq_true] at h
  refine ⟨Nat.eq_of_beq_eq_true h.1, ?_⟩
  match bs, hb, h.2 with
  | a :: r, hb, h2 => exact Nat.eq_of_beq_eq_true h2 ▸ hb 0 a rfl
theorem dk2S {c : ByteArray} {p len op x : Nat} {bs : List Nat} (h : dk2 bs len op x = true) (hb : bsat c p bs) : len = 2 ∧ bat c p op ∧ bat c (p + 1) x := by
  unfold dk2 at h
  rw [Bool.and_eq_true] at h
  refine ⟨Nat.eq_of_beq_eq_true h.1, ?_⟩
  match bs, hb, h.2 with
  | a :: b :: r, hb, h2 =>
    rw [Bool.and_eq_true] at h2
    exact ⟨Nat.eq_of_beq_eq_true h2.1 ▸ hb 0 a rfl, Nat.eq_of_beq_eq_true h2.2 ▸ hb 1 b rfl⟩
theorem dk2sS {c : ByteArray} {p len op : Nat} {x : Int} {bs : List Nat} (h : dk2s bs len op x = true) (hb : bsat c p bs) : len = 2 ∧ bat c p op ∧ ∃ b, bat c (p + 1) b ∧ ClassFile.Reader.signed 8 b = x := by
  unfold dk2s at h
  rw [Bool.and_eq_true] at h
  refine ⟨Nat.eq_of_beq_eq_true h.1, ?_⟩
  match bs, hb, h.2 with
  | a :: b :: r, hb, h2 =>
    rw [Bool.and_eq_true] at h2
    exact ⟨Nat.eq_of_beq_eq_true h2.1 ▸ hb 0 a rfl, b, hb 1 b rfl, of_decide_eq_true h2.2⟩
theorem dk3S {c : ByteArray} {p len op x : Nat} {bs : List Nat} (h : dk3 bs len op x = true) (hb : bsat c p bs) : len = 3 ∧ bat c p op ∧ ∃ b d, bat c (p + 1) b ∧ bat c (p + 2) d ∧ b * 256 + d = x := by
  unfold dk3 at h
  rw [Bool.and_eq_true] at h
  refine ⟨Nat.eq_of_beq_eq_true h.1, ?_⟩
  match bs, hb, h.2 with
  | a :: b :: d :: r, hb, h2 =>
    rw [Bool.and_eq_true] at h2
    exact ⟨Nat.eq_of_beq_eq_true h2.1 ▸ hb 0 a rfl, b, d, hb 1 b rfl, hb 2 d rfl, Nat.eq_of_beq_eq_true h2.2⟩
theorem dk3sS {c : ByteArray} {p len op : Nat} {x : Int} {bs : List Nat} (h : dk3s bs len op x = true) (hb : bsat c p bs) : len = 3 ∧ bat c p op ∧ ∃ b d, bat c (p + 1) b ∧ bat c (p + 2) d ∧ ClassFile.Reader.signed 16 (b * 256 + d) = x := by
  unfold dk3s at h
  rw [Bool.and_eq_true] at h
  refine ⟨Nat.eq_of_beq_eq_true h.1, ?_⟩
  match bs, hb, h.2 with
  | a :: b :: d :: r, hb, h2 =>
    rw [Bool.and_eq_true] at h2
    exact ⟨Nat.eq_of_beq_eq_true h2.1 ▸ hb 0 a rfl, b, d, hb 1 b rfl, hb 2 d rfl, of_decide_eq_true h2.2⟩
theorem dk3iS {c : ByteArray} {p len op x : Nat} {y : Int} {bs : List Nat} (h : dk3i bs len op x y = true) (hb : bsat c p bs) : len = 3 ∧ bat c p op ∧ bat c (p + 1) x ∧ ∃ d, bat c (p + 2) d ∧ ClassFile.Reader.signed 8 d = y := by
  unfold dk3i at h
  rw [Bool.and_eq_true] at h
  refine ⟨Nat.eq_of_beq_eq_true h.1, ?_⟩
  match bs, hb, h.2 with
  | a :: b :: d :: r, hb, h2 =>
    rw [Bool.and_eq_true, Bool.and_eq_true] at h2
    exact ⟨Nat.eq_of_beq_eq_true h2.1 ▸ hb 0 a rfl, Nat.eq_of_beq_eq_true h2.2.1 ▸ hb 1 b rfl, d, hb 2 d rfl, of_decide_eq_true h2.2.2⟩
noncomputable def cN : ClassFile.Cond → Nat
  | .eq => 0
  | .ne => 1
  | .lt => 2
  | .ge => 3
  | .gt => 4
  | .le => 5
noncomputable def atN : ClassFile.ArrayType → Nat
  | .boolean => 4
  | .char => 5
  | .float => 6
  | .double => 7
  | .byte => 8
  | .short => 9
  | .int => 10
  | .long => 11
/-- the row's bytes (false: of a kind that is decoded by itself) -/
noncomputable def dchk (i : Instr) (bs : List Nat) (len : Nat) : Bool := match i with
  | .iadd => dk1 bs len 96
  | .isub => dk1 bs len 100
  | .imul => dk1 bs len 104
  | .idiv => dk1 bs len 108
  | .irem => dk1 bs len 112
  | .ineg => dk1 bs len 116
  | .ishl => dk1 bs len 120
  | .ishr => dk1 bs len 122
  | .iushr => dk1 bs len 124
  | .iand => dk1 bs len 126
  | .ior => dk1 bs len 128
  | .ixor => dk1 bs len 130
  | .ladd => dk1 bs len 97
  | .lsub => dk1 bs len 101
  | .lmul => dk1 bs len 105
  | .ldiv => dk1 bs len 109
  | .lrem => dk1 bs len 113
  | .i2l => dk1 bs len 133
  | .l2i => dk1 bs len 136
  | .i2b => dk1 bs len 145
  | .i2c => dk1 bs len 146
  | .i2s => dk1 bs len 147
  | .lcmp => dk1 bs len 148
  | .iaload => dk1 bs len 46
  | .laload => dk1 bs len 47
  | .aaload => dk1 bs len 50
  | .baload => dk1 bs len 51
  | .caload => dk1 bs len 52
  | .iastore => dk1 bs len 79
  | .lastore => dk1 bs len 80
  | .bastore => dk1 bs len 84
  | .castore => dk1 bs len 85
  | .pop => dk1 bs len 87
  | .dup => dk1 bs len 89
  | .dup_x1 => dk1 bs len 90
  | .dup2 => dk1 bs len 92
  | .ireturn => dk1 bs len 172
  | .lreturn => dk1 bs len 173
  | .return_ => dk1 bs len 177
  | .arraylength => dk1 bs len 190
  | .athrow => dk1 bs len 191
  | .iload_n n => dk1 bs len (26 + n.val)
  | .lload_n n => dk1 bs len (30 + n.val)
  | .aload_n n => dk1 bs len (42 + n.val)
  | .istore_n n => dk1 bs len (59 + n.val)
  | .lstore_n n => dk1 bs len (63 + n.val)
  | .astore_n n => dk1 bs len (75 + n.val)
  | .lconst n => dk1 bs len (9 + n.val)
  | .iconst (.ofNat 0) => dk1 bs len 3
  | .iconst (.ofNat 1) => dk1 bs len 4
  | .iconst (.ofNat 2) => dk1 bs len 5
  | .iconst (.ofNat 3) => dk1 bs len 6
  | .iconst (.ofNat 4) => dk1 bs len 7
  | .iconst (.ofNat 5) => dk1 bs len 8
  | .iconst (.negSucc 0) => dk1 bs len 2
  | .ldc x => dk2 bs len 18 x
  | .iload x => dk2 bs len 21 x
  | .lload x => dk2 bs len 22 x
  | .aload x => dk2 bs len 25 x
  | .istore x => dk2 bs len 54 x
  | .lstore x => dk2 bs len 55 x
  | .astore x => dk2 bs len 58 x
  | .ldc_w x => dk3 bs len 19 x
  | .ldc2_w x => dk3 bs len 20 x
  | .getfield x => dk3 bs len 180 x
  | .putfield x => dk3 bs len 181 x
  | .invokevirtual x => dk3 bs len 182 x
  | .invokespecial x => dk3 bs len 183 x
  | .invokestatic x => dk3 bs len 184 x
  | .new x => dk3 bs len 187 x
  | .bipush v => dk2s bs len 16 v
  | .sipush v => dk3s bs len 17 v
  | .goto v => dk3s bs len 167 v
  | .ifCond c v => dk3s bs len (153 + cN c) v
  | .if_icmp c v => dk3s bs len (159 + cN c) v
  | .newarray t => dk2 bs len 188 (atN t)
  | .iinc n v => dk3i bs len 132 n v
  | _ => false
set_option maxHeartbeats 4000000 in
theorem dchkS {c : ByteArray} {p len : Nat} {i : Instr} {bs : List Nat} (h : dchk i bs len = true) (hb : bsat c p bs) : decode c p = .ok (i, len) := by
  unfold dchk at h
  split at h
  · obtain ⟨rfl, b0⟩ := dk1S h hb
    exact dcO ((rdB (rd1 b0)).trans rfl)
  · obtain ⟨rfl, b0⟩ := dk1S h hb
    exact dcO ((rdB (rd1 b0)).trans rfl)
  · obtain ⟨rfl, b0⟩ := dk1S h hb
    exact dcO ((rdB (rd1 b0)).trans rfl)
  · obtain ⟨rfl, b0⟩ := dk1S h hb
    exact dcO ((rdB (rd1 b0)).trans rfl)
  · obtain ⟨rfl, b0⟩ := dk1S h hb
    exact dcO ((rdB (rd1 b0)).trans rfl)
  · obtain ⟨rfl, b0⟩ := dk1S h hb
    exact dcO ((rdB (rd1 b0)).trans rfl)
  · obtain ⟨rfl, b0⟩ := dk1S h hb
    exact dcO ((rdB (rd1 b0)).trans rfl)
  · obtain ⟨rfl, b0⟩ := dk1S h hb
    exact dcO ((rdB (rd1 b0)).trans rfl)
  · obtain ⟨rfl, b0⟩ := dk1S h hb
    exact dcO ((rdB (rd1 b0)).trans rfl)
  · obtain ⟨rfl, b0⟩ := dk1S h hb
    exact dcO ((rdB (rd1 b0)).trans rfl)
  · obtain ⟨rfl, b0⟩ := dk1S h hb
    exact dcO ((rdB (rd1 b0)).trans rfl)
  · obtain ⟨rfl, b0⟩ := dk1S h hb
    exact dcO ((rdB (rd1 b0)).trans rfl)
  · obtain ⟨rfl, b0⟩ := dk1S h hb
    exact dcO ((rdB (rd1 b0)).trans rfl)
  · obtain ⟨rfl, b0⟩ := dk1S h hb
    exact dcO ((rdB (rd1 b0)).trans rfl)
  · obtain ⟨rfl, b0⟩ := dk1S h hb
    exact dcO ((rdB (rd1 b0)).trans rfl)
  · obtain ⟨rfl, b0⟩ := dk1S h hb
    exact dcO ((rdB (rd1 b0)).trans rfl)
  · obtain ⟨rfl, b0⟩ := dk1S h hb
    exact dcO ((rdB (rd1 b0)).trans rfl)
  · obtain ⟨rfl, b0⟩ := dk1S h hb
    exact dcO ((rdB (rd1 b0)).trans rfl)
  · obtain ⟨rfl, b0⟩ := dk1S h hb
    exact dcO ((rdB (rd1 b0)).trans rfl)
  · obtain ⟨rfl, b0⟩ := dk1S h hb
    exact dcO ((rdB (rd1 b0)).trans rfl)
  · obtain ⟨rfl, b0⟩ := dk1S h hb
    exact dcO ((rdB (rd1 b0)).trans rfl)
  · obtain ⟨rfl, b0⟩ := dk1S h hb
    exact dcO ((rdB (rd1 b0)).trans rfl)
  · obtain ⟨rfl, b0⟩ := dk1S h hb
    exact dcO ((rdB (rd1 b0)).trans rfl)
  · obtain ⟨rfl, b0⟩ := dk1S h hb
    exact dcO ((rdB (rd1 b0)).trans rfl)
  · obtain ⟨rfl, b0⟩ := dk1S h hb
    exact dcO ((rdB (rd1 b0)).trans rfl)
  · obtain ⟨rfl, b0⟩ := dk1S h hb
    exact dcO ((rdB (rd1 b0)).trans rfl)
  · obtain ⟨rfl, b0⟩ := dk1S h hb
    exact dcO ((rdB (rd1 b0)).trans rfl)
  · obtain ⟨rfl, b0⟩ := dk1S h hb
    exact dcO ((rdB (rd1 b0)).trans rfl)
  · obtain ⟨rfl, b0⟩ := dk1S h hb
    exact dcO ((rdB (rd1 b0)).trans rfl)
  · obtain ⟨rfl, b0⟩ := dk1S h hb
    exact dcO ((rdB (rd1 b0)).trans rfl)
  · obtain ⟨rfl, b0⟩ := dk1S h hb
    exact dcO ((rdB (rd1 b0)).trans rfl)
  · obtain ⟨rfl, b0⟩ := dk1S h hb
    exact dcO ((rdB (rd1 b0)).trans rfl)
  · obtain ⟨rfl, b0⟩ := dk1S h hb
    exact dcO ((rdB (rd1 b0)).trans rfl)
  · obtain ⟨rfl, b0⟩ := dk1S h hb
    exact dcO ((rdB (rd1 b0)).trans rfl)
  · obtain ⟨rfl, b0⟩ := dk1S h hb
    exact dcO ((rdB (rd1 b0)).trans rfl)
  · obtain ⟨rfl, b0⟩ := dk1S h hb
    exact dcO ((rdB (rd1 b0)).trans rfl)
  · obtain ⟨rfl, b0⟩ := dk1S h hb
    exact dcO ((rdB (rd1 b0)).trans rfl)
  · obtain ⟨rfl, b0⟩ := dk1S h hb
    exact dcO ((rdB (rd1 b0)).trans rfl)
  · obtain ⟨rfl, b0⟩ := dk1S h hb
    exact dcO ((rdB (rd1 b0)).trans rfl)
  · obtain ⟨rfl, b0⟩ := dk1S h hb
    exact dcO ((rdB (rd1 b0)).trans rfl)
  · obtain ⟨rfl, b0⟩ := dk1S h hb
    exact dcO ((rdB (rd1 b0)).trans rfl)
  · rename_i n
    obtain ⟨rfl, b0⟩ := dk1S h hb
    match n, b0 with
    | 0, b0 => exact dcO ((rdB (rd1 b0)).trans rfl)
    | 1, b0 => exact dcO ((rdB (rd1 b0)).trans rfl)
    | 2, b0 => exact dcO ((rdB (rd1 b0)).trans rfl)
    | 3, b0 => exact dcO ((rdB (rd1 b0)).trans rfl)
  · rename_i n
    obtain ⟨rfl, b0⟩ := dk1S h hb
    match n, b0 with
    | 0, b0 => exact dcO ((rdB (rd1 b0)).trans rfl)
    | 1, b0 => exact dcO ((rdB (rd1 b0)).trans rfl)
    | 2, b0 => exact dcO ((rdB (rd1 b0)).trans rfl)
    | 3, b0 => exact dcO ((rdB (rd1 b0)).trans rfl)
  · rename_i n
    obtain ⟨rfl, b0⟩ := dk1S h hb
    match n, b0 with
    | 0, b0 => exact dcO ((rdB (rd1 b0)).trans rfl)
    | 1, b0 => exact dcO ((rdB (rd1 b0)).trans rfl)
    | 2, b0 => exact dcO ((rdB (rd1 b0)).trans rfl)
    | 3, b0 => exact dcO ((rdB (rd1 b0)).trans rfl)
  · rename_i n
    obtain ⟨rfl, b0⟩ := dk1S h hb
    match n, b0 with
    | 0, b0 => exact dcO ((rdB (rd1 b0)).trans rfl)
    | 1, b0 => exact dcO ((rdB (rd1 b0)).trans rfl)
    | 2, b0 => exact dcO ((rdB (rd1 b0)).trans rfl)
    | 3, b0 => exact dcO ((rdB (rd1 b0)).trans rfl)
  · rename_i n
    obtain ⟨rfl, b0⟩ := dk1S h hb
    match n, b0 with
    | 0, b0 => exact dcO ((rdB (rd1 b0)).trans rfl)
    | 1, b0 => exact dcO ((rdB (rd1 b0)).trans rfl)
    | 2, b0 => exact dcO ((rdB (rd1 b0)).trans rfl)
    | 3, b0 => exact dcO ((rdB (rd1 b0)).trans rfl)
  · rename_i n
    obtain ⟨rfl, b0⟩ := dk1S h hb
    match n, b0 with
    | 0, b0 => exact dcO ((rdB (rd1 b0)).trans rfl)
    | 1, b0 => exact dcO ((rdB (rd1 b0)).trans rfl)
    | 2, b0 => exact dcO ((rdB (rd1 b0)).trans rfl)
    | 3, b0 => exact dcO ((rdB (rd1 b0)).trans rfl)
  · rename_i n
    obtain ⟨rfl, b0⟩ := dk1S h hb
    match n, b0 with
    | 0, b0 => exact dcO ((rdB (rd1 b0)).trans rfl)
    | 1, b0 => exact dcO ((rdB (rd1 b0)).trans rfl)
  · obtain ⟨rfl, b0⟩ := dk1S h hb
    exact dcO ((rdB (rd1 b0)).trans rfl)
  · obtain ⟨rfl, b0⟩ := dk1S h hb
    exact dcO ((rdB (rd1 b0)).trans rfl)
  · obtain ⟨rfl, b0⟩ := dk1S h hb
    exact dcO ((rdB (rd1 b0)).trans rfl)
  · obtain ⟨rfl, b0⟩ := dk1S h hb
    exact dcO ((rdB (rd1 b0)).trans rfl)
  · obtain ⟨rfl, b0⟩ := dk1S h hb
    exact dcO ((rdB (rd1 b0)).trans rfl)
  · obtain ⟨rfl, b0⟩ := dk1S h hb
    exact dcO ((rdB (rd1 b0)).trans rfl)
  · obtain ⟨rfl, b0⟩ := dk1S h hb
    exact dcO ((rdB (rd1 b0)).trans rfl)
  · obtain ⟨rfl, b0, b1⟩ := dk2S h hb
    exact dcO ((rdB (rd1 b0)).trans ((rdB (rd1 b1)).trans rfl))
  · obtain ⟨rfl, b0, b1⟩ := dk2S h hb
    exact dcO ((rdB (rd1 b0)).trans ((rdB (rd1 b1)).trans rfl))
  · obtain ⟨rfl, b0, b1⟩ := dk2S h hb
    exact dcO ((rdB (rd1 b0)).trans ((rdB (rd1 b1)).trans rfl))
  · obtain ⟨rfl, b0, b1⟩ := dk2S h hb
    exact dcO ((rdB (rd1 b0)).trans ((rdB (rd1 b1)).trans rfl))
  · obtain ⟨rfl, b0, b1⟩ := dk2S h hb
    exact dcO ((rdB (rd1 b0)).trans ((rdB (rd1 b1)).trans rfl))
  · obtain ⟨rfl, b0, b1⟩ := dk2S h hb
    exact dcO ((rdB (rd1 b0)).trans ((rdB (rd1 b1)).trans rfl))
  · obtain ⟨rfl, b0, b1⟩ := dk2S h hb
    exact dcO ((rdB (rd1 b0)).trans ((rdB (rd1 b1)).trans rfl))
  · obtain ⟨rfl, b0, b, d, b1, b2, rfl⟩ := dk3S h hb
    exact dcO ((rdB (rd1 b0)).trans ((rdB (rd2 b1 b2)).trans rfl))
  · obtain ⟨rfl, b0, b, d, b1, b2, rfl⟩ := dk3S h hb
    exact dcO ((rdB (rd1 b0)).trans ((rdB (rd2 b1 b2)).trans rfl))
  · obtain ⟨rfl, b0, b, d, b1, b2, rfl⟩ := dk3S h hb
    exact dcO ((rdB (rd1 b0)).trans ((rdB (rd2 b1 b2)).trans rfl))
  · obtain ⟨rfl, b0, b, d, b1, b2, rfl⟩ := dk3S h hb
    exact dcO ((rdB (rd1 b0)).trans ((rdB (rd2 b1 b2)).trans rfl))
  · obtain ⟨rfl, b0, b, d, b1, b2, rfl⟩ := dk3S h hb
    exact dcO ((rdB (rd1 b0)).trans ((rdB (rd2 b1 b2)).trans rfl))
  · obtain ⟨rfl, b0, b, d, b1, b2, rfl⟩ := dk3S h hb
    exact dcO ((rdB (rd1 b0)).trans ((rdB (rd2 b1 b2)).trans rfl))
  · obtain ⟨rfl, b0, b, d, b1, b2, rfl⟩ := dk3S h hb
    exact dcO ((rdB (rd1 b0)).trans ((rdB (rd2 b1 b2)).trans rfl))
  · obtain ⟨rfl, b0, b, d, b1, b2, rfl⟩ := dk3S h hb
    exact dcO ((rdB (rd1 b0)).trans ((rdB (rd2 b1 b2)).trans rfl))
  · obtain ⟨rfl, b0, b, b1, rfl⟩ := dk2sS h hb
    exact dcO ((rdB (rd1 b0)).trans ((rdB (rds1 b1)).trans rfl))
  · obtain ⟨rfl, b0, b, d, b1, b2, rfl⟩ := dk3sS h hb
    exact dcO ((rdB (rd1 b0)).trans ((rdB (rds2 b1 b2)).trans rfl))
  · obtain ⟨rfl, b0, b, d, b1, b2, rfl⟩ := dk3sS h hb
    exact dcO ((rdB (rd1 b0)).trans ((rdB (rds2 b1 b2)).trans rfl))
  · rename_i cc v
    obtain ⟨rfl, b0, b, d, b1, b2, rfl⟩ := dk3sS h hb
    cases cc
    · exact dcO ((rdB (rd1 b0)).trans ((rdB (rds2 b1 b2)).trans rfl))
    · exact dcO ((rdB (rd1 b0)).trans ((rdB (rds2 b1 b2)).trans rfl))
    · exact dcO ((rdB (rd1 b0)).trans ((rdB (rds2 b1 b2)).trans rfl))
    · exact dcO ((rdB (rd1 b0)).trans ((rdB (rds2 b1 b2)).trans rfl))
    · exact dcO ((rdB (rd1 b0)).trans ((rdB (rds2 b1 b2)).trans rfl))
    · exact dcO ((rdB (rd1 b0)).trans ((rdB (rds2 b1 b2)).trans rfl))
  · rename_i cc v
    obtain ⟨rfl, b0, b, d, b1, b2, rfl⟩ := dk3sS h hb
    cases cc
    · exact dcO ((rdB (rd1 b0)).trans ((rdB (rds2 b1 b2)).trans rfl))
    · exact dcO ((rdB (rd1 b0)).trans ((rdB (rds2 b1 b2)).trans rfl))
    · exact dcO ((rdB (rd1 b0)).trans ((rdB (rds2 b1 b2)).trans rfl))
    · exact dcO ((rdB (rd1 b0)).trans ((rdB (rds2 b1 b2)).trans rfl))
    · exact dcO ((rdB (rd1 b0)).trans ((rdB (rds2 b1 b2)).trans rfl))
    · exact dcO ((rdB (rd1 b0)).trans ((rdB (rds2 b1 b2)).trans rfl))
  · rename_i t
    obtain ⟨rfl, b0, b1⟩ := dk2S h hb
    cases t
    · exact dcO ((rdB (rd1 b0)).trans ((rdB (rd1 b1)).trans rfl))
    · exact dcO ((rdB (rd1 b0)).trans ((rdB (rd1 b1)).trans rfl))
    · exact dcO ((rdB (rd1 b0)).trans ((rdB (rd1 b1)).trans rfl))
    · exact dcO ((rdB (rd1 b0)).trans ((rdB (rd1 b1)).trans rfl))
    · exact dcO ((rdB (rd1 b0)).trans ((rdB (rd1 b1)).trans rfl))
    · exact dcO ((rdB (rd1 b0)).trans ((rdB (rd1 b1)).trans rfl))
    · exact dcO ((rdB (rd1 b0)).trans ((rdB (rd1 b1)).trans rfl))
    · exact dcO ((rdB (rd1 b0)).trans ((rdB (rd1 b1)).trans rfl))
  · obtain ⟨rfl, b0, b1, d, b2, rfl⟩ := dk3iS h hb
    exact dcO ((rdB (rd1 b0)).trans ((rdB (rd1 b1)).trans ((rdB (rds1 b2)).trans rfl)))
  · cases h
end
-- 06.check0.lean.txt
section
/-! The tables are what the class files say: each row is what its bytes decode to, each pool number what the tables' words say. -/
noncomputable def wAt (i : Nat) (w : Cond) : Bool := decide (lw_g i = some w) && goodWord w
/-- the words that every method is given -/
noncomputable def tb : List Cond := lw_tbl.filter goodWord
theorem wAt_mem {i : Nat} {w : Cond} (h : wAt i w = true) : w ∈ tb := by
  simp only [wAt, Bool.and_eq_true, decide_eq_true_eq] at h
  exact List.mem_filter.mpr ⟨lw_gm _ _ h.1, h.2⟩
/-- the words of calls of a nest mate's constructor, which are kept apart -/
noncomputable def nw : List Cond := lw_tbl.filter (fun w => match w with
  | .methodLinkNest _ _ _ _ => true
  | _ => false)
noncomputable def nAt (i : Nat) (a : String) (x : Nat) (y : MethodName) (h : String) : Bool := decide (lw_g i = some (.methodLinkNest a x y h))
theorem nAt_mem {i : Nat} {a : String} {x : Nat} {y : MethodName} {h : String} (e : nAt i a x y h = true) : Cond.methodLinkNest a x y h ∈ nw := by
  simp only [nAt, decide_eq_true_eq] at e
  exact List.mem_filter.mpr ⟨lw_gm _ _ e, rfl⟩
noncomputable abbrev mY (k : Nat) : MethodName := (mth k).1
noncomputable abbrev mC (k : Nat) : ByteArray := (mth k).2.1
noncomputable abbrev mN (k : Nat) : Nat := (mth k).2.2.1
noncomputable abbrev mL (k : Nat) : Nat := (mth k).2.2.2.1
noncomputable abbrev mR (k : Nat) : Option FieldType := (mth k).2.2.2.2.1
noncomputable abbrev mP (k : Nat) : Nat := (mth k).2.2.2.2.2.1
noncomputable abbrev mW (k : Nat) : Nat × Nat × Nat × Nat := (mth k).2.2.2.2.2.2
/-- methods that are called as others are: not the law, nor its helpers -/
noncomputable def c_plain (k : Nat) : Bool := !(Nat.beq k 303) && (match p_hlp k with | none => true | some _ => false)
noncomputable def c_M (k : Nat) : Bool := wAt (mW k).1 (.code (mY k) (mC k) (mL k) (mR k)) && wAt (mW k).2.1 (.initialized (mY k).cls) && plainFor (mY k) && decide ((mY k).cls ≠ "java/lang/invoke/MethodHandle") && decide ((mY k).cls ≠ "java/lang/invoke/VarHandle") && decide ((parseMethodDescriptor (mY k).desc).map (fun d => d.parameters.length) = some (mP k)) && Nat.ble (mL k) 40
noncomputable def c_fld (k x a1 a2 a3 : Nat) : Bool := match vwCl[a1]? with
  | some q => Nat.blt a2 q.2.2 && wAt a3 (.fieldLink (mY k).cls x q.1 (q.2.1 a2).2.1 (q.2.1 a2).2.2.1) && decide ((q.2.1 a2).1 = q.1)
  | none => false
noncomputable def c_fin (k a1 a2 : Nat) : Bool := match vwCl[a1]? with
  | some q => !(q.2.1 a2).2.2.2 || (decide ((mY k).name = "<init>") && decide ((q.2.1 a2).1 = (mY k).cls))
  | none => false
noncomputable def c_new (k x a1 a3 : Nat) : Bool := Nat.beq a1 99 || (match vwCl[a1]? with
  | some q => wAt a3 (.classLink (mY k).cls x q.1)
  | none => false)
noncomputable def c_cls (k : Nat) : Bool := match vwCl[mcl k]? with
  | some q => decide (q.1 = (mY k).cls)
  | none => false
noncomputable def c_I (k pc : Nat) : pR → Bool
  | (i, nx, a1, a2, a3, z) => match i with
    | .ldc x => !(Nat.beq a1 0) || wAt a3 (.constant (mY k).cls x (Int32.ofInt z))
    | .ldc_w x => !(Nat.beq a1 0) || wAt a3 (.constant (mY k).cls x (Int32.ofInt z))
    | .ldc2_w x => !(Nat.beq a1 0) || wAt a3 (.constantLong (mY k).cls x (Int64.ofInt z))
    | .ifCond _ o => decide ((pc : Int) + o = (a1 : Int)) && Nat.beq nx (pc + 3)
    | .if_icmp _ o => decide ((pc : Int) + o = (a1 : Int)) && Nat.beq nx (pc + 3)
    | .goto o => decide ((pc : Int) + o = (a1 : Int)) && Nat.beq nx (pc + 3)
    | .tableswitch d _ _ os => decide (0 ≤ (pc : Int) + d) && os.toList.all (fun o => decide (0 ≤ (pc : Int) + o))
    | .getfield x => c_fld k x a1 a2 a3
    | .putfield x => c_fld k x a1 a2 a3 && c_fin k a1 a2
    | .new x => c_new k x a1 a3
    | .multianewarray x d => wAt a3 (.classLink (mY k).cls x "[[I") && Nat.beq d 2
    | .invokestatic x => bif Nat.beq a1 901 then wAt a3 (.methodLink (mY k).cls x arraycopyName) else
        Nat.ble nMth a1 || (wAt a3 (.methodLink (mY k).cls x (mY a1)) && wAt (mW a1).2.2.1 (.static (mY a1)) && Nat.beq a2 (mP a1))
    | .invokevirtual x => Nat.ble nMth a1 || (c_plain a1 && wAt a3 (.methodLink (mY k).cls x (mY a1)) && wAt (mW a1).2.2.1 (.instanceMethod (mY a1)) && wAt (mW a1).2.2.2 (.selects (mY a1).cls (mY a1) (mY a1)) && c_cls a1 && Nat.beq a2 (mP a1))
    | .invokespecial x => bif Nat.beq a1 900 then wAt a3 (.methodLink (mY k).cls x objectInit) else
        Nat.ble nMth a1 || (c_plain a1 && (bif decide (z = 1) then nAt a3 (mY k).cls x (mY a1) "SkirtsByTheDay" else wAt a3 (.methodLink (mY k).cls x (mY a1))) && wAt (mW a1).2.2.1 (.instanceMethod (mY a1)) && decide ((mY a1).name = "<init>") && decide (mR a1 = none) && Nat.beq a2 (mP a1))
    | _ => true
noncomputable def c_row (k pc : Nat) : Bool := match ins k pc with
  | none => true
  | some q => Nat.blt pc q.2.1 && decide (decode (mC k) pc = .ok (q.1, q.2.1 - pc)) && c_I k pc q
noncomputable def c_meth (k : Nat) : Bool := (!(c_plain k) || c_M k) && (List.range (mN k)).all (c_row k)
end
-- 06.check1.lean.txt
section
/-! The checks by numbers, and that they give c_row. -/
noncomputable def wq (i : Nat) (e : wE) : Bool := match n_we i with
  | some f => Nat.beq f.1 e.1 && (Nat.beq f.2.1 e.2.1 && (Nat.beq f.2.2.1 e.2.2.1 && (Nat.beq f.2.2.2.1 e.2.2.2.1 && decide (f.2.2.2.2 = e.2.2.2.2))))
  | none => false
theorem wq_g {i : Nat} {e : wE} (h : wq i e = true) : lw_g i = some (wOf e) := by
  unfold wq at h
  cases hw : n_we i with
  | none => rw [hw] at h; cases h
  | some f =>
    rw [hw] at h
    simp only [Bool.and_eq_true, decide_eq_true_eq] at h
    obtain ⟨h1, h2, h3, h4, h5⟩ := h
    have e1 : f = e := Prod.ext (Nat.eq_of_beq_eq_true h1) (Prod.ext (Nat.eq_of_beq_eq_true h2) (Prod.ext (Nat.eq_of_beq_eq_true h3) (Prod.ext (Nat.eq_of_beq_eq_true h4) h5)))
    rw [← e1]
    exact n_weO i f hw
theorem wq_at {i : Nat} {e : wE} {w : Cond} (h : wq i e = true) (hw : wOf e = w) (hg : goodWord w = true) : wAt i w = true := by
  unfold wAt
  rw [Bool.and_eq_true]
  exact ⟨decide_eq_true ((wq_g h).trans (congrArg some hw)), hg⟩
theorem fld_all : vwCl.all (fun q => (List.range q.2.2).all (fun f => decide ((q.2.1 f).1 = q.1))) = true := by decide +kernel
theorem cls_all : (List.range 299).all (fun a1 => !(Nat.blt a1 292 || Nat.beq a1 298) || c_cls a1) = true := by decide +kernel
theorem cls_allB {a1 : Nat} (h : (Nat.blt a1 292 || Nat.beq a1 298) = true) : a1 < 299 := by
  rw [Bool.or_eq_true] at h
  rcases h with h | h
  · have := Nat.le_of_ble_eq_true h
    omega
  · have := Nat.eq_of_beq_eq_true h
    omega
theorem cls_allA {a1 : Nat} (h : (Nat.blt a1 292 || Nat.beq a1 298) = true) : c_cls a1 = true := by
  have := List.all_eq_true.mp cls_all a1 (List.mem_range.mpr (cls_allB h))
  rw [h] at this
  exact this
noncomputable def n_fld (k x a1 a2 a3 : Nat) : Bool := match vwCl[a1]? with
  | some q => Nat.blt a2 q.2.2 && wq a3 (1, n_rp k, x, a1, (a2 : Int))
  | none => false
noncomputable def n_new (k x a1 a3 : Nat) : Bool := Nat.beq a1 99 || (match vwCl[a1]? with
  | some _ => wq a3 (2, n_rp k, x, a1, 0)
  | none => false)
noncomputable def n_I (k pc : Nat) : pR → Bool
  | (i, nx, a1, a2, a3, z) => match i with
    | .ldc x => !(Nat.beq a1 0) || wq a3 (8, n_rp k, x, 0, z)
    | .ldc_w x => !(Nat.beq a1 0) || wq a3 (8, n_rp k, x, 0, z)
    | .ldc2_w x => !(Nat.beq a1 0) || wq a3 (9, n_rp k, x, 0, z)
    | .getfield x => n_fld k x a1 a2 a3
    | .putfield x => n_fld k x a1 a2 a3 && c_fin k a1 a2
    | .new x => n_new k x a1 a3
    | .multianewarray x d => wq a3 (3, n_rp k, x, 0, 0) && Nat.beq d 2
    | .invokestatic x => bif Nat.beq a1 901 then wq a3 (5, n_rp k, x, 0, 0) else
        Nat.ble nMth a1 || (wq a3 (4, n_rp k, x, a1, 0) && wq (mW a1).2.2.1 (10, a1, 0, 0, 0) && Nat.beq a2 (mP a1))
    | .invokevirtual x => Nat.ble nMth a1 || (c_plain a1 && wq a3 (4, n_rp k, x, a1, 0) && wq (mW a1).2.2.1 (11, a1, 0, 0, 0) && wq (mW a1).2.2.2 (12, a1, 0, 0, 0) && (Nat.blt a1 292 || Nat.beq a1 298) && Nat.beq a2 (mP a1))
    | .invokespecial x => bif Nat.beq a1 900 then wq a3 (6, n_rp k, x, 0, 0) else
        Nat.ble nMth a1 || (c_plain a1 && (bif decide (z = 1) then wq a3 (7, n_rp k, x, a1, 0) else wq a3 (4, n_rp k, x, a1, 0)) && wq (mW a1).2.2.1 (11, a1, 0, 0, 0) && decide ((mY a1).name = "<init>") && decide (mR a1 = none) && Nat.beq a2 (mP a1))
    | _ => c_I k pc (i, nx, a1, a2, a3, z)
theorem n_fldS {k x a1 a2 a3 : Nat} (hk : k < 304) (h : n_fld k x a1 a2 a3 = true) : c_fld k x a1 a2 a3 = true := by
  unfold n_fld at h
  unfold c_fld
  cases hq : vwCl[a1]? with
  | none => rw [hq] at h; cases h
  | some q =>
    rw [hq] at h
    simp only [Bool.and_eq_true] at h ⊢
    have h1 := List.all_eq_true.mp fld_all q (List.mem_of_getElem? hq)
    have h2 := List.all_eq_true.mp h1 a2 (List.mem_range.mpr (Nat.le_of_ble_eq_true h.1))
    refine ⟨⟨h.1, wq_at h.2 ?_ rfl⟩, h2⟩
    show wFd (n_rp k) x ((a2 : Int)).toNat vwCl[a1]? = _
    rw [hq, Int.toNat_natCast]
    show Cond.fieldLink (nY (n_rp k)).cls x q.1 (q.2.1 a2).2.1 (q.2.1 a2).2.2.1 = _
    rw [n_rpO hk]
theorem n_newS {k x a1 a3 : Nat} (hk : k < 304) (h : n_new k x a1 a3 = true) : c_new k x a1 a3 = true := by
  unfold n_new at h
  unfold c_new
  rw [Bool.or_eq_true] at h ⊢
  rcases h with h | h
  · exact Or.inl h
  · refine Or.inr ?_
    cases hq : vwCl[a1]? with
    | none => rw [hq] at h; cases h
    | some q =>
      rw [hq] at h
      refine wq_at h ?_ rfl
      show wCl (n_rp k) x vwCl[a1]? = _
      rw [hq]
      show Cond.classLink (nY (n_rp k)).cls x q.1 = _
      rw [n_rpO hk]
set_option maxHeartbeats 4000000 in
theorem n_IS {k pc : Nat} {q : pR} (hk : k < 304) (h : n_I k pc q = true) : c_I k pc q = true := by
  obtain ⟨i, nx, a1, a2, a3, z⟩ := q
  have ek := n_rpO hk
  have cs : ∀ {x : Nat} {z : Int}, wq a3 (8, n_rp k, x, 0, z) = true → wAt a3 (.constant (mY k).cls x (Int32.ofInt z)) = true := fun h => wq_at h (by rw [← ek]; rfl) rfl
  have cl : ∀ {x : Nat} {z : Int}, wq a3 (9, n_rp k, x, 0, z) = true → wAt a3 (.constantLong (mY k).cls x (Int64.ofInt z)) = true := fun h => wq_at h (by rw [← ek]; rfl) rfl
  have ml : ∀ {x a : Nat}, wq a3 (4, n_rp k, x, a, 0) = true → wAt a3 (.methodLink (mY k).cls x (mY a)) = true := fun h => wq_at h (by rw [← ek]; rfl) rfl
  have im : ∀ {i a : Nat}, wq i (11, a, 0, 0, 0) = true → wAt i (.instanceMethod (mY a)) = true := fun h => wq_at h rfl rfl
  cases i
  all_goals first
    | exact h
    | (unfold n_I at h; unfold c_I; dsimp only at h ⊢
       first
         | exact n_fldS hk h
         | exact n_newS hk h
         | (rw [Bool.and_eq_true] at h ⊢; exact ⟨n_fldS hk h.1, h.2⟩)
         | (rw [Bool.or_eq_true] at h ⊢; exact h.imp id (fun h => cs h))
         | (rw [Bool.or_eq_true] at h ⊢; exact h.imp id (fun h => cl h))
         | (rw [Bool.and_eq_true] at h ⊢; exact ⟨wq_at h.1 (by rw [← ek]; rfl) rfl, h.2⟩)
         | (rw [Bool.or_eq_true] at h ⊢
            refine h.imp id (fun h => ?_)
            simp only [Bool.and_eq_true] at h ⊢
            obtain ⟨⟨⟨⟨⟨h1, h2⟩, h3⟩, h4⟩, h5⟩, h6⟩ := h
            exact ⟨⟨⟨⟨⟨h1, ml h2⟩, im h3⟩, wq_at h4 rfl rfl⟩, cls_allA h5⟩, h6⟩)
         | (cases hb : Nat.beq a1 901 with
            | true =>
              rw [hb] at h
              exact wq_at h (by rw [← ek]; rfl) rfl
            | false =>
              rw [hb] at h
              simp only [cond_false] at h ⊢
              rw [Bool.or_eq_true] at h ⊢
              refine h.imp id (fun h => ?_)
              simp only [Bool.and_eq_true] at h ⊢
              exact ⟨⟨ml h.1.1, wq_at h.1.2 rfl rfl⟩, h.2⟩)
         | (cases hb : Nat.beq a1 900 with
            | true =>
              rw [hb] at h
              exact wq_at h (by rw [← ek]; rfl) rfl
            | false =>
              rw [hb] at h
              simp only [cond_false] at h ⊢
              rw [Bool.or_eq_true] at h ⊢
              refine h.imp id (fun h => ?_)
              simp only [Bool.and_eq_true] at h ⊢
              obtain ⟨⟨⟨⟨⟨h1, h2⟩, h3⟩, h4⟩, h5⟩, h6⟩ := h
              refine ⟨⟨⟨⟨⟨h1, ?_⟩, im h3⟩, h4⟩, h5⟩, h6⟩
              cases hz : decide (z = 1) with
              | true =>
                rw [hz] at h2
                simp only [cond_true] at h2 ⊢
                exact decide_eq_true ((wq_g h2).trans (by rw [← ek]; rfl))
              | false =>
                rw [hz] at h2
                simp only [cond_false] at h2 ⊢
                exact ml h2))
/-- a row, with what is left of the bytes -/
noncomputable def n_rw (k pc : Nat) (bs : List Nat) : Bool := match ins k pc with
  | none => true
  | some q => Nat.blt pc q.2.1 && ((dchk q.1 bs (q.2.1 - pc) || decide (decode (mC k) pc = .ok (q.1, q.2.1 - pc))) && n_I k pc q)
theorem n_rowS {k pc : Nat} {bs : List Nat} (hk : k < 304) (h : n_rw k pc bs = true) (hb : bsat (mC k) pc bs) : c_row k pc = true := by
  unfold n_rw at h
  unfold c_row
  cases hi : ins k pc with
  | none => rfl
  | some q =>
    rw [hi] at h
    simp only [Bool.and_eq_true, Bool.or_eq_true, decide_eq_true_eq] at h ⊢
    refine ⟨⟨h.1, ?_⟩, n_IS hk h.2.2⟩
    rcases h.2.1 with h1 | h1
    · exact dchkS h1 hb
    · exact h1
noncomputable def n_go (k : Nat) : List Nat → Nat → Bool
  | [], _ => true
  | b :: t, pc => n_rw k pc (b :: t) && n_go k t (pc + 1)
noncomputable def n_bs (k : Nat) : List Nat := (mC k).data.toList.map UInt8.toNat
theorem n_goS {k : Nat} (hk : k < 304) : ∀ (bs : List Nat) (pc : Nat), n_go k bs pc = true → bsat (mC k) pc bs → ∀ j, j < bs.length → c_row k (pc + j) = true
  | [], _, _, _, j, hj => absurd hj (Nat.not_lt_zero j)
  | b :: t, pc, h, hb, j, hj => by
    unfold n_go at h
    rw [Bool.and_eq_true] at h
    match j with
    | 0 => exact n_rowS hk h.1 hb
    | j + 1 =>
      rw [show pc + (j + 1) = pc + 1 + j by omega]
      refine n_goS hk t (pc + 1) h.2 (fun i v hi => ?_) j (by simpa using hj)
      rw [show pc + 1 + i = pc + (i + 1) by omega]
      exact hb (i + 1) v hi
theorem n_bsat (c : ByteArray) : bsat c 0 (c.data.toList.map UInt8.toNat) := fun j v h => by
  rw [List.getElem?_map, Option.map_eq_some_iff] at h
  obtain ⟨u, h1, rfl⟩ := h
  obtain ⟨h2, h3⟩ := List.getElem?_eq_some_iff.mp h1
  rw [Nat.zero_add]
  refine ⟨by simpa using h2, ?_⟩
  rw [← h3]
  rfl
noncomputable def n_meth (k : Nat) : Bool := decide ((n_bs k).length = mN k) && n_go k (n_bs k) 0
theorem n_methS {k : Nat} (hk : k < 304) (h : n_meth k = true) (pc : Nat) (hp : pc < mN k) : c_row k pc = true := by
  unfold n_meth at h
  rw [Bool.and_eq_true] at h
  have := n_goS hk (n_bs k) 0 h.2 (n_bsat (mC k)) pc (by rw [of_decide_eq_true h.1]; exact hp)
  rw [Nat.zero_add] at this
  exact this
noncomputable def n_M (k : Nat) : Bool := wq (mW k).1 (13, k, 0, 0, 0) && wq (mW k).2.1 (14, n_rp k, 0, 0, 0) && plainFor (mY k) && decide ((mY k).cls ≠ "java/lang/invoke/MethodHandle") && decide ((mY k).cls ≠ "java/lang/invoke/VarHandle") && decide ((parseMethodDescriptor (mY k).desc).map (fun d => d.parameters.length) = some (mP k)) && Nat.ble (mL k) 40
theorem n_MS {k : Nat} (hk : k < 304) (h : n_M k = true) : c_M k = true := by
  unfold n_M at h
  unfold c_M
  simp only [Bool.and_eq_true] at h ⊢
  obtain ⟨⟨⟨⟨⟨⟨h1, h2⟩, h3⟩, h4⟩, h5⟩, h6⟩, h7⟩ := h
  exact ⟨⟨⟨⟨⟨⟨wq_at h1 rfl rfl, wq_at h2 (by show Cond.initialized (nY (n_rp k)).cls = _; rw [n_rpO hk]) rfl⟩, h3⟩, h4⟩, h5⟩, h6⟩, h7⟩
end
-- 06.check2.lean.txt
section
set_option maxRecDepth 1000000 in
theorem c_m0 : n_meth 0 = true := by decide +kernel
set_option maxRecDepth 1000000 in
theorem c_m1 : n_meth 1 = true := by decide +kernel
set_option maxRecDepth 1000000 in
theorem c_m2 : n_meth 2 = true := by decide +kernel
set_option maxRecDepth 1000000 in
theorem c_m3 : n_meth 3 = true := by decide +kernel
set_option maxRecDepth 1000000 in
theorem c_m4 : n_meth 4 = true := by decide +kernel
set_option maxRecDepth 1000000 in
theorem c_m5 : n_meth 5 = true := by decide +kernel
set_option maxRecDepth 1000000 in
theorem c_m6 : n_meth 6 = true := by decide +kernel
set_option maxRecDepth 1000000 in
theorem c_m7 : n_meth 7 = true := by decide +kernel
set_option maxRecDepth 1000000 in
theorem c_m8 : n_meth 8 = true := by decide +kernel
set_option maxRecDepth 1000000 in
theorem c_m9 : n_meth 9 = true := by decide +kernel
set_option maxRecDepth 1000000 in
theorem c_m10 : n_meth 10 = true := by decide +kernel
set_option maxRecDepth 1000000 in
theorem c_m11 : n_meth 11 = true := by decide +kernel
set_option maxRecDepth 1000000 in
theorem c_m12 : n_meth 12 = true := by decide +kernel
set_option maxRecDepth 1000000 in
theorem c_m13 : n_meth 13 = true := by decide +kernel
set_option maxRecDepth 1000000 in
theorem c_m14 : n_meth 14 = true := by decide +kernel
set_option maxRecDepth 1000000 in
theorem c_m15 : n_meth 15 = true := by decide +kernel
set_option maxRecDepth 1000000 in
theorem c_m16 : n_meth 16 = true := by decide +kernel
set_option maxRecDepth 1000000 in
theorem c_m17 : n_meth 17 = true := by decide +kernel
set_option maxRecDepth 1000000 in
theorem c_m18 : n_meth 18 = true := by decide +kernel
set_option maxRecDepth 1000000 in
theorem c_m19 : n_meth 19 = true := by decide +kernel
set_option maxRecDepth 1000000 in
theorem c_m20 : n_meth 20 = true := by decide +kernel
set_option maxRecDepth 1000000 in
theorem c_m21 : n_meth 21 = true := by decide +kernel
set_option maxRecDepth 1000000 in
theorem c_m22 : n_meth 22 = true := by decide +kernel
set_option maxRecDepth 1000000 in
theorem c_m23 : n_meth 23 = true := by decide +kernel
set_option maxRecDepth 1000000 in
theorem c_m24 : n_meth 24 = true := by decide +kernel
set_option maxRecDepth 1000000 in
theorem c_m25 : n_meth 25 = true := by decide +kernel
set_option maxRecDepth 1000000 in
theorem c_m26 : n_meth 26 = true := by decide +kernel
set_option maxRecDepth 1000000 in
theorem c_m27 : n_meth 27 = true := by decide +kernel
set_option maxRecDepth 1000000 in
theorem c_m28 : n_meth 28 = true := by decide +kernel
set_option maxRecDepth 1000000 in
theorem c_m29 : n_meth 29 = true := by decide +kernel
set_option maxRecDepth 1000000 in
theorem c_m30 : n_meth 30 = true := by decide +kernel
set_option maxRecDepth 1000000 in
theorem c_m31 : n_meth 31 = true := by decide +kernel
set_option maxRecDepth 1000000 in
theorem c_m32 : n_meth 32 = true := by decide +kernel
set_option maxRecDepth 1000000 in
theorem c_m33 : n_meth 33 = true := by decide +kernel
set_option maxRecDepth 1000000 in
theorem c_m34 : n_meth 34 = true := by decide +kernel
set_option maxRecDepth 1000000 in
theorem c_m35 : n_meth 35 = true := by decide +kernel
set_option maxRecDepth 1000000 in
theorem c_m36 : n_meth 36 = true := by decide +kernel
set_option maxRecDepth 1000000 in
theorem c_m37 : n_meth 37 = true := by decide +kernel
set_option maxRecDepth 1000000 in
theorem c_m38 : n_meth 38 = true := by decide +kernel
set_option maxRecDepth 1000000 in
theorem c_m39 : n_meth 39 = true := by decide +kernel
set_option maxRecDepth 1000000 in
theorem c_m40 : n_meth 40 = true := by decide +kernel
set_option maxRecDepth 1000000 in
theorem c_m41 : n_meth 41 = true := by decide +kernel
set_option maxRecDepth 1000000 in
theorem c_m42 : n_meth 42 = true := by decide +kernel
set_option maxRecDepth 1000000 in
theorem c_m43 : n_meth 43 = true := by decide +kernel
set_option maxRecDepth 1000000 in
theorem c_m44 : n_meth 44 = true := by decide +kernel
set_option maxRecDepth 1000000 in
theorem c_m45 : n_meth 45 = true := by decide +kernel
set_option maxRecDepth 1000000 in
theorem c_m46 : n_meth 46 = true := by decide +kernel
set_option maxRecDepth 1000000 in
theorem c_m47 : n_meth 47 = true := by decide +kernel
set_option maxRecDepth 1000000 in
theorem c_m48 : n_meth 48 = true := by decide +kernel
set_option maxRecDepth 1000000 in
theorem c_m49 : n_meth 49 = true := by decide +kernel
set_option maxRecDepth 1000000 in
theorem c_m50 : n_meth 50 = true := by decide +kernel
theorem c_p2 : (List.range' 0 51).all (fun k => !(c_plain k) || n_M k) = true := by decide +kernel
end
-- 06.check3.lean.txt
section
set_option maxRecDepth 1000000 in
theorem c_m51 : n_meth 51 = true := by decide +kernel
set_option maxRecDepth 1000000 in
theorem c_m52 : n_meth 52 = true := by decide +kernel
set_option maxRecDepth 1000000 in
theorem c_m53 : n_meth 53 = true := by decide +kernel
set_option maxRecDepth 1000000 in
theorem c_m54 : n_meth 54 = true := by decide +kernel
set_option maxRecDepth 1000000 in
theorem c_m55 : n_meth 55 = true := by decide +kernel
set_option maxRecDepth 1000000 in
theorem c_m56 : n_meth 56 = true := by decide +kernel
set_option maxRecDepth 1000000 in
theorem c_m57 : n_meth 57 = true := by decide +kernel
set_option maxRecDepth 1000000 in
theorem c_m58 : n_meth 58 = true := by decide +kernel
set_option maxRecDepth 1000000 in
theorem c_m59 : n_meth 59 = true := by decide +kernel
set_option maxRecDepth 1000000 in
theorem c_m60 : n_meth 60 = true := by decide +kernel
set_option maxRecDepth 1000000 in
theorem c_m61 : n_meth 61 = true := by decide +kernel
set_option maxRecDepth 1000000 in
theorem c_m62 : n_meth 62 = true := by decide +kernel
set_option maxRecDepth 1000000 in
theorem c_m63 : n_meth 63 = true := by decide +kernel
set_option maxRecDepth 1000000 in
theorem c_m64 : n_meth 64 = true := by decide +kernel
set_option maxRecDepth 1000000 in
theorem c_m65 : n_meth 65 = true := by decide +kernel
set_option maxRecDepth 1000000 in
theorem c_m66 : n_meth 66 = true := by decide +kernel
set_option maxRecDepth 1000000 in
theorem c_m67 : n_meth 67 = true := by decide +kernel
set_option maxRecDepth 1000000 in
theorem c_m68 : n_meth 68 = true := by decide +kernel
set_option maxRecDepth 1000000 in
theorem c_m69 : n_meth 69 = true := by decide +kernel
set_option maxRecDepth 1000000 in
theorem c_m70 : n_meth 70 = true := by decide +kernel
set_option maxRecDepth 1000000 in
theorem c_m71 : n_meth 71 = true := by decide +kernel
set_option maxRecDepth 1000000 in
theorem c_m72 : n_meth 72 = true := by decide +kernel
set_option maxRecDepth 1000000 in
theorem c_m73 : n_meth 73 = true := by decide +kernel
set_option maxRecDepth 1000000 in
theorem c_m74 : n_meth 74 = true := by decide +kernel
set_option maxRecDepth 1000000 in
theorem c_m75 : n_meth 75 = true := by decide +kernel
set_option maxRecDepth 1000000 in
theorem c_m76 : n_meth 76 = true := by decide +kernel
set_option maxRecDepth 1000000 in
theorem c_m77 : n_meth 77 = true := by decide +kernel
set_option maxRecDepth 1000000 in
theorem c_m78 : n_meth 78 = true := by decide +kernel
set_option maxRecDepth 1000000 in
theorem c_m79 : n_meth 79 = true := by decide +kernel
set_option maxRecDepth 1000000 in
theorem c_m80 : n_meth 80 = true := by decide +kernel
set_option maxRecDepth 1000000 in
theorem c_m81 : n_meth 81 = true := by decide +kernel
set_option maxRecDepth 1000000 in
theorem c_m82 : n_meth 82 = true := by decide +kernel
set_option maxRecDepth 1000000 in
theorem c_m83 : n_meth 83 = true := by decide +kernel
set_option maxRecDepth 1000000 in
theorem c_m84 : n_meth 84 = true := by decide +kernel
set_option maxRecDepth 1000000 in
theorem c_m85 : n_meth 85 = true := by decide +kernel
set_option maxRecDepth 1000000 in
theorem c_m86 : n_meth 86 = true := by decide +kernel
set_option maxRecDepth 1000000 in
theorem c_m87 : n_meth 87 = true := by decide +kernel
set_option maxRecDepth 1000000 in
theorem c_m88 : n_meth 88 = true := by decide +kernel
set_option maxRecDepth 1000000 in
theorem c_m89 : n_meth 89 = true := by decide +kernel
set_option maxRecDepth 1000000 in
theorem c_m90 : n_meth 90 = true := by decide +kernel
set_option maxRecDepth 1000000 in
theorem c_m91 : n_meth 91 = true := by decide +kernel
set_option maxRecDepth 1000000 in
theorem c_m92 : n_meth 92 = true := by decide +kernel
set_option maxRecDepth 1000000 in
theorem c_m93 : n_meth 93 = true := by decide +kernel
set_option maxRecDepth 1000000 in
theorem c_m94 : n_meth 94 = true := by decide +kernel
set_option maxRecDepth 1000000 in
theorem c_m95 : n_meth 95 = true := by decide +kernel
set_option maxRecDepth 1000000 in
theorem c_m96 : n_meth 96 = true := by decide +kernel
set_option maxRecDepth 1000000 in
theorem c_m97 : n_meth 97 = true := by decide +kernel
set_option maxRecDepth 1000000 in
theorem c_m98 : n_meth 98 = true := by decide +kernel
set_option maxRecDepth 1000000 in
theorem c_m99 : n_meth 99 = true := by decide +kernel
set_option maxRecDepth 1000000 in
theorem c_m100 : n_meth 100 = true := by decide +kernel
set_option maxRecDepth 1000000 in
theorem c_m101 : n_meth 101 = true := by decide +kernel
theorem c_p3 : (List.range' 51 51).all (fun k => !(c_plain k) || n_M k) = true := by decide +kernel
end
-- 06.check4.lean.txt
section
set_option maxRecDepth 1000000 in
theorem c_m102 : n_meth 102 = true := by decide +kernel
set_option maxRecDepth 1000000 in
theorem c_m103 : n_meth 103 = true := by decide +kernel
set_option maxRecDepth 1000000 in
theorem c_m104 : n_meth 104 = true := by decide +kernel
set_option maxRecDepth 1000000 in
theorem c_m105 : n_meth 105 = true := by decide +kernel
set_option maxRecDepth 1000000 in
theorem c_m106 : n_meth 106 = true := by decide +kernel
set_option maxRecDepth 1000000 in
theorem c_m107 : n_meth 107 = true := by decide +kernel
set_option maxRecDepth 1000000 in
theorem c_m108 : n_meth 108 = true := by decide +kernel
set_option maxRecDepth 1000000 in
theorem c_m109 : n_meth 109 = true := by decide +kernel
set_option maxRecDepth 1000000 in
theorem c_m110 : n_meth 110 = true := by decide +kernel
set_option maxRecDepth 1000000 in
theorem c_m111 : n_meth 111 = true := by decide +kernel
set_option maxRecDepth 1000000 in
theorem c_m112 : n_meth 112 = true := by decide +kernel
set_option maxRecDepth 1000000 in
theorem c_m113 : n_meth 113 = true := by decide +kernel
set_option maxRecDepth 1000000 in
theorem c_m114 : n_meth 114 = true := by decide +kernel
set_option maxRecDepth 1000000 in
theorem c_m115 : n_meth 115 = true := by decide +kernel
set_option maxRecDepth 1000000 in
theorem c_m116 : n_meth 116 = true := by decide +kernel
set_option maxRecDepth 1000000 in
theorem c_m117 : n_meth 117 = true := by decide +kernel
set_option maxRecDepth 1000000 in
theorem c_m118 : n_meth 118 = true := by decide +kernel
set_option maxRecDepth 1000000 in
theorem c_m119 : n_meth 119 = true := by decide +kernel
set_option maxRecDepth 1000000 in
theorem c_m120 : n_meth 120 = true := by decide +kernel
set_option maxRecDepth 1000000 in
theorem c_m121 : n_meth 121 = true := by decide +kernel
set_option maxRecDepth 1000000 in
theorem c_m122 : n_meth 122 = true := by decide +kernel
set_option maxRecDepth 1000000 in
theorem c_m123 : n_meth 123 = true := by decide +kernel
set_option maxRecDepth 1000000 in
theorem c_m124 : n_meth 124 = true := by decide +kernel
set_option maxRecDepth 1000000 in
theorem c_m125 : n_meth 125 = true := by decide +kernel
set_option maxRecDepth 1000000 in
theorem c_m126 : n_meth 126 = true := by decide +kernel
set_option maxRecDepth 1000000 in
theorem c_m127 : n_meth 127 = true := by decide +kernel
set_option maxRecDepth 1000000 in
theorem c_m128 : n_meth 128 = true := by decide +kernel
set_option maxRecDepth 1000000 in
theorem c_m129 : n_meth 129 = true := by decide +kernel
set_option maxRecDepth 1000000 in
theorem c_m130 : n_meth 130 = true := by decide +kernel
set_option maxRecDepth 1000000 in
theorem c_m131 : n_meth 131 = true := by decide +kernel
set_option maxRecDepth 1000000 in
theorem c_m132 : n_meth 132 = true := by decide +kernel
set_option maxRecDepth 1000000 in
theorem c_m133 : n_meth 133 = true := by decide +kernel
set_option maxRecDepth 1000000 in
theorem c_m134 : n_meth 134 = true := by decide +kernel
set_option maxRecDepth 1000000 in
theorem c_m135 : n_meth 135 = true := by decide +kernel
set_option maxRecDepth 1000000 in
theorem c_m136 : n_meth 136 = true := by decide +kernel
set_option maxRecDepth 1000000 in
theorem c_m137 : n_meth 137 = true := by decide +kernel
set_option maxRecDepth 1000000 in
theorem c_m138 : n_meth 138 = true := by decide +kernel
set_option maxRecDepth 1000000 in
theorem c_m139 : n_meth 139 = true := by decide +kernel
set_option maxRecDepth 1000000 in
theorem c_m140 : n_meth 140 = true := by decide +kernel
set_option maxRecDepth 1000000 in
theorem c_m141 : n_meth 141 = true := by decide +kernel
set_option maxRecDepth 1000000 in
theorem c_m142 : n_meth 142 = true := by decide +kernel
set_option maxRecDepth 1000000 in
theorem c_m143 : n_meth 143 = true := by decide +kernel
set_option maxRecDepth 1000000 in
theorem c_m144 : n_meth 144 = true := by decide +kernel
set_option maxRecDepth 1000000 in
theorem c_m145 : n_meth 145 = true := by decide +kernel
set_option maxRecDepth 1000000 in
theorem c_m146 : n_meth 146 = true := by decide +kernel
set_option maxRecDepth 1000000 in
theorem c_m147 : n_meth 147 = true := by decide +kernel
set_option maxRecDepth 1000000 in
theorem c_m148 : n_meth 148 = true := by decide +kernel
set_option maxRecDepth 1000000 in
theorem c_m149 : n_meth 149 = true := by decide +kernel
set_option maxRecDepth 1000000 in
theorem c_m150 : n_meth 150 = true := by decide +kernel
set_option maxRecDepth 1000000 in
theorem c_m151 : n_meth 151 = true := by decide +kernel
set_option maxRecDepth 1000000 in
theorem c_m152 : n_meth 152 = true := by decide +kernel
theorem c_p4 : (List.range' 102 51).all (fun k => !(c_plain k) || n_M k) = true := by decide +kernel
end
-- 06.check5.lean.txt
section
set_option maxRecDepth 1000000 in
theorem c_m153 : n_meth 153 = true := by decide +kernel
set_option maxRecDepth 1000000 in
theorem c_m154 : n_meth 154 = true := by decide +kernel
set_option maxRecDepth 1000000 in
theorem c_m155 : n_meth 155 = true := by decide +kernel
set_option maxRecDepth 1000000 in
theorem c_m156 : n_meth 156 = true := by decide +kernel
set_option maxRecDepth 1000000 in
theorem c_m157 : n_meth 157 = true := by decide +kernel
set_option maxRecDepth 1000000 in
theorem c_m158 : n_meth 158 = true := by decide +kernel
set_option maxRecDepth 1000000 in
theorem c_m159 : n_meth 159 = true := by decide +kernel
set_option maxRecDepth 1000000 in
theorem c_m160 : n_meth 160 = true := by decide +kernel
set_option maxRecDepth 1000000 in
theorem c_m161 : n_meth 161 = true := by decide +kernel
set_option maxRecDepth 1000000 in
theorem c_m162 : n_meth 162 = true := by decide +kernel
set_option maxRecDepth 1000000 in
theorem c_m163 : n_meth 163 = true := by decide +kernel
set_option maxRecDepth 1000000 in
theorem c_m164 : n_meth 164 = true := by decide +kernel
set_option maxRecDepth 1000000 in
theorem c_m165 : n_meth 165 = true := by decide +kernel
set_option maxRecDepth 1000000 in
theorem c_m166 : n_meth 166 = true := by decide +kernel
set_option maxRecDepth 1000000 in
theorem c_m167 : n_meth 167 = true := by decide +kernel
set_option maxRecDepth 1000000 in
theorem c_m168 : n_meth 168 = true := by decide +kernel
set_option maxRecDepth 1000000 in
theorem c_m169 : n_meth 169 = true := by decide +kernel
set_option maxRecDepth 1000000 in
theorem c_m170 : n_meth 170 = true := by decide +kernel
set_option maxRecDepth 1000000 in
theorem c_m171 : n_meth 171 = true := by decide +kernel
set_option maxRecDepth 1000000 in
theorem c_m172 : n_meth 172 = true := by decide +kernel
set_option maxRecDepth 1000000 in
theorem c_m173 : n_meth 173 = true := by decide +kernel
set_option maxRecDepth 1000000 in
theorem c_m174 : n_meth 174 = true := by decide +kernel
set_option maxRecDepth 1000000 in
theorem c_m175 : n_meth 175 = true := by decide +kernel
set_option maxRecDepth 1000000 in
theorem c_m176 : n_meth 176 = true := by decide +kernel
set_option maxRecDepth 1000000 in
theorem c_m177 : n_meth 177 = true := by decide +kernel
set_option maxRecDepth 1000000 in
theorem c_m178 : n_meth 178 = true := by decide +kernel
set_option maxRecDepth 1000000 in
theorem c_m179 : n_meth 179 = true := by decide +kernel
set_option maxRecDepth 1000000 in
theorem c_m180 : n_meth 180 = true := by decide +kernel
set_option maxRecDepth 1000000 in
theorem c_m181 : n_meth 181 = true := by decide +kernel
set_option maxRecDepth 1000000 in
theorem c_m182 : n_meth 182 = true := by decide +kernel
set_option maxRecDepth 1000000 in
theorem c_m183 : n_meth 183 = true := by decide +kernel
set_option maxRecDepth 1000000 in
theorem c_m184 : n_meth 184 = true := by decide +kernel
set_option maxRecDepth 1000000 in
theorem c_m185 : n_meth 185 = true := by decide +kernel
set_option maxRecDepth 1000000 in
theorem c_m186 : n_meth 186 = true := by decide +kernel
set_option maxRecDepth 1000000 in
theorem c_m187 : n_meth 187 = true := by decide +kernel
set_option maxRecDepth 1000000 in
theorem c_m188 : n_meth 188 = true := by decide +kernel
set_option maxRecDepth 1000000 in
theorem c_m189 : n_meth 189 = true := by decide +kernel
set_option maxRecDepth 1000000 in
theorem c_m190 : n_meth 190 = true := by decide +kernel
set_option maxRecDepth 1000000 in
theorem c_m191 : n_meth 191 = true := by decide +kernel
set_option maxRecDepth 1000000 in
theorem c_m192 : n_meth 192 = true := by decide +kernel
set_option maxRecDepth 1000000 in
theorem c_m193 : n_meth 193 = true := by decide +kernel
set_option maxRecDepth 1000000 in
theorem c_m194 : n_meth 194 = true := by decide +kernel
set_option maxRecDepth 1000000 in
theorem c_m195 : n_meth 195 = true := by decide +kernel
set_option maxRecDepth 1000000 in
theorem c_m196 : n_meth 196 = true := by decide +kernel
set_option maxRecDepth 1000000 in
theorem c_m197 : n_meth 197 = true := by decide +kernel
set_option maxRecDepth 1000000 in
theorem c_m198 : n_meth 198 = true := by decide +kernel
set_option maxRecDepth 1000000 in
theorem c_m199 : n_meth 199 = true := by decide +kernel
set_option maxRecDepth 1000000 in
theorem c_m200 : n_meth 200 = true := by decide +kernel
set_option maxRecDepth 1000000 in
theorem c_m201 : n_meth 201 = true := by decide +kernel
set_option maxRecDepth 1000000 in
theorem c_m202 : n_meth 202 = true := by decide +kernel
set_option maxRecDepth 1000000 in
theorem c_m203 : n_meth 203 = true := by decide +kernel
theorem c_p5 : (List.range' 153 51).all (fun k => !(c_plain k) || n_M k) = true := by decide +kernel
end
-- 06.check6.lean.txt
section
set_option maxRecDepth 1000000 in
theorem c_m204 : n_meth 204 = true := by decide +kernel
set_option maxRecDepth 1000000 in
theorem c_m205 : n_meth 205 = true := by decide +kernel
set_option maxRecDepth 1000000 in
theorem c_m206 : n_meth 206 = true := by decide +kernel
set_option maxRecDepth 1000000 in
theorem c_m207 : n_meth 207 = true := by decide +kernel
set_option maxRecDepth 1000000 in
theorem c_m208 : n_meth 208 = true := by decide +kernel
set_option maxRecDepth 1000000 in
theorem c_m209 : n_meth 209 = true := by decide +kernel
set_option maxRecDepth 1000000 in
theorem c_m210 : n_meth 210 = true := by decide +kernel
set_option maxRecDepth 1000000 in
theorem c_m211 : n_meth 211 = true := by decide +kernel
set_option maxRecDepth 1000000 in
theorem c_m212 : n_meth 212 = true := by decide +kernel
set_option maxRecDepth 1000000 in
theorem c_m213 : n_meth 213 = true := by decide +kernel
set_option maxRecDepth 1000000 in
theorem c_m214 : n_meth 214 = true := by decide +kernel
set_option maxRecDepth 1000000 in
theorem c_m215 : n_meth 215 = true := by decide +kernel
set_option maxRecDepth 1000000 in
theorem c_m216 : n_meth 216 = true := by decide +kernel
set_option maxRecDepth 1000000 in
theorem c_m217 : n_meth 217 = true := by decide +kernel
set_option maxRecDepth 1000000 in
theorem c_m218 : n_meth 218 = true := by decide +kernel
set_option maxRecDepth 1000000 in
theorem c_m219 : n_meth 219 = true := by decide +kernel
set_option maxRecDepth 1000000 in
theorem c_m220 : n_meth 220 = true := by decide +kernel
set_option maxRecDepth 1000000 in
theorem c_m221 : n_meth 221 = true := by decide +kernel
set_option maxRecDepth 1000000 in
theorem c_m222 : n_meth 222 = true := by decide +kernel
set_option maxRecDepth 1000000 in
theorem c_m223 : n_meth 223 = true := by decide +kernel
set_option maxRecDepth 1000000 in
theorem c_m224 : n_meth 224 = true := by decide +kernel
set_option maxRecDepth 1000000 in
theorem c_m225 : n_meth 225 = true := by decide +kernel
set_option maxRecDepth 1000000 in
theorem c_m226 : n_meth 226 = true := by decide +kernel
set_option maxRecDepth 1000000 in
theorem c_m227 : n_meth 227 = true := by decide +kernel
set_option maxRecDepth 1000000 in
theorem c_m228 : n_meth 228 = true := by decide +kernel
set_option maxRecDepth 1000000 in
theorem c_m229 : n_meth 229 = true := by decide +kernel
set_option maxRecDepth 1000000 in
theorem c_m230 : n_meth 230 = true := by decide +kernel
set_option maxRecDepth 1000000 in
theorem c_m231 : n_meth 231 = true := by decide +kernel
set_option maxRecDepth 1000000 in
theorem c_m232 : n_meth 232 = true := by decide +kernel
set_option maxRecDepth 1000000 in
theorem c_m233 : n_meth 233 = true := by decide +kernel
set_option maxRecDepth 1000000 in
theorem c_m234 : n_meth 234 = true := by decide +kernel
set_option maxRecDepth 1000000 in
theorem c_m235 : n_meth 235 = true := by decide +kernel
set_option maxRecDepth 1000000 in
theorem c_m236 : n_meth 236 = true := by decide +kernel
set_option maxRecDepth 1000000 in
theorem c_m237 : n_meth 237 = true := by decide +kernel
set_option maxRecDepth 1000000 in
theorem c_m238 : n_meth 238 = true := by decide +kernel
set_option maxRecDepth 1000000 in
theorem c_m239 : n_meth 239 = true := by decide +kernel
set_option maxRecDepth 1000000 in
theorem c_m240 : n_meth 240 = true := by decide +kernel
set_option maxRecDepth 1000000 in
theorem c_m241 : n_meth 241 = true := by decide +kernel
set_option maxRecDepth 1000000 in
theorem c_m242 : n_meth 242 = true := by decide +kernel
set_option maxRecDepth 1000000 in
theorem c_m243 : n_meth 243 = true := by decide +kernel
set_option maxRecDepth 1000000 in
theorem c_m244 : n_meth 244 = true := by decide +kernel
set_option maxRecDepth 1000000 in
theorem c_m245 : n_meth 245 = true := by decide +kernel
set_option maxRecDepth 1000000 in
theorem c_m246 : n_meth 246 = true := by decide +kernel
set_option maxRecDepth 1000000 in
theorem c_m247 : n_meth 247 = true := by decide +kernel
set_option maxRecDepth 1000000 in
theorem c_m248 : n_meth 248 = true := by decide +kernel
set_option maxRecDepth 1000000 in
theorem c_m249 : n_meth 249 = true := by decide +kernel
set_option maxRecDepth 1000000 in
theorem c_m250 : n_meth 250 = true := by decide +kernel
set_option maxRecDepth 1000000 in
theorem c_m251 : n_meth 251 = true := by decide +kernel
set_option maxRecDepth 1000000 in
theorem c_m252 : n_meth 252 = true := by decide +kernel
set_option maxRecDepth 1000000 in
theorem c_m253 : n_meth 253 = true := by decide +kernel
set_option maxRecDepth 1000000 in
theorem c_m254 : n_meth 254 = true := by decide +kernel
theorem c_p6 : (List.range' 204 51).all (fun k => !(c_plain k) || n_M k) = true := by decide +kernel
end
