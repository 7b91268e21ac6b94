/-! The law's start: what its words give. -/
theorem t_xw : q_xw.all (fun w => decide (w ∈ lw_tbl)) = true := by decide +kernel
theorem t_xs : q_xs.all (fun q => decide (Cond.stringRef "SkirtsByTheDay" q.1 q.2 ∈ lw_tbl)) = true := by decide +kernel
theorem t_xe : q_xs.all (fun q => decide (Cond.exactly (.string "SkirtsByTheDay" q.1) "java/lang/String" ∈ flatC (Jvm.Cond.and given_1 narrow_1))) = true := by decide +kernel
theorem t_u1 : Cond.laysStatic Bundle.tN "UNASSIGNED_STACK" Bundle.steD ∈ lw_tbl := List.mem_of_getElem? (i := 1236) (by decide +kernel)
theorem t_u2 : Cond.laysStatic Bundle.tN "SUPPRESSED_SENTINEL" Bundle.listD ∈ lw_tbl := List.mem_of_getElem? (i := 1238) (by decide +kernel)
theorem t_u3 : Cond.initialized Bundle.tN ∈ lw_tbl := List.mem_of_getElem? (i := 82) (by decide +kernel)
theorem t_u4 : Cond.isRef (.static Bundle.tN "UNASSIGNED_STACK" Bundle.steD) ∈ flatC (Jvm.Cond.and given_1 narrow_1) := by decide +kernel
theorem t_u5 : Cond.isRef (.static Bundle.tN "SUPPRESSED_SENTINEL" Bundle.listD) ∈ flatC (Jvm.Cond.and given_1 narrow_1) := by decide +kernel
theorem t_arr {args : Array Value} {s : State} {ty : FieldType} (h : (Cond.arrayClass ty).before args s = true) : ∃ cA : ClassId, ArrOfT s cA ty ∧ s.vm.findClass ("[" ++ ty.toString) = some cA := by
  obtain ⟨c, k, comp, h1, h2, h3⟩ := Cond.arrayClass_spec h
  exact ⟨c, fun n z => ⟨fun k h => (by cases h), k, h2, comp, h3⟩, h1⟩
theorem t_arr2 {s : State} (h : va_AOA .int s) : ∃ cA : ClassId, ArrOfT s cA (.array .int) ∧ s.vm.findClass ("[" ++ (FieldType.array .int).toString) = some cA := by
  obtain ⟨comp, c, k, h1, h2, h3, h4, h5⟩ := q_aoS h
  exact ⟨c, fun n z => ⟨fun k h => (by cases h), k, h3, comp, h4⟩, h5⟩
theorem t_init {args : Array Value} {s : State} (hts : ∀ w ∈ lw_tbl, w.before args s = true) (hgv : (Jvm.Cond.and given_1 narrow_1).before args s = true) {b L : Nat} {xs : Nat → Int32} (hX : va_X b L xs s s.heap) : ∃ (dC : Nat → ClassId) (dI : Nat → Nat → Nat) (dA : FieldType → ClassId), q_K dC dI dA s.heap s ∧ dA .short = b := by
  have htb : ∀ w ∈ tb, w.before args s = true := fun w hw => hts w (List.mem_filter.mp hw).1
  have hfl := flat_of_before _ hgv
  have hcl : ∀ ci : Nat, ∃ pr : ClassId × (Nat → Nat), ∀ q, vwCl[ci]? = some q → u_Kn s q.1 q.2.1 q.2.2 pr.1 pr.2 := by
    intro ci
    cases hq : vwCl[ci]? with
    | none => exact ⟨(0, fun _ => 0), fun q h => by cases h⟩
    | some q =>
      obtain ⟨k1, k2, k3, k4, k5, k6⟩ := q_clsA ci q hq
      obtain ⟨cC, iS, hk⟩ := u_known htb k1 (htb _ k4)
      exact ⟨(cC, iS), fun q' h => by cases h; exact hk⟩
  have hao : va_AOA .int s := hts _ (List.mem_of_getElem? q_ao)
  obtain ⟨cI, i1, i2⟩ := t_arr (htb _ q_ac_int)
  obtain ⟨cB, b1, b2⟩ := t_arr (htb _ q_ac_byte)
  obtain ⟨cZ, z1, z2⟩ := t_arr (htb _ q_ac_boolean)
  obtain ⟨cC, c1, c2⟩ := t_arr (htb _ q_ac_char)
  obtain ⟨cJ, j1, j2⟩ := t_arr (htb _ q_ac_long)
  obtain ⟨cA, a1, a2⟩ := t_arr2 hao
  refine ⟨fun ci => (Classical.choose (hcl ci)).1, fun ci => (Classical.choose (hcl ci)).2, fun ty => match ty with
    | .int => cI
    | .byte => cB
    | .boolean => cZ
    | .char => cC
    | .long => cJ
    | .short => b
    | _ => cA, ⟨⟨fun ci q hq => Classical.choose_spec (hcl ci) q hq, fun k q hk => ?_⟩, fun w hw => ?_, ⟨hao, fun scr hs => ?_⟩, fun w hw => ?_, fun q hq => ?_, ?_, ?_⟩, rfl⟩
  · rcases k with _ | _ | _ | _ | _ | _ | k
    · cases hk; exact ⟨i1, i2⟩
    · cases hk; exact ⟨b1, b2⟩
    · cases hk; exact ⟨z1, z2⟩
    · cases hk; exact ⟨c1, c2⟩
    · cases hk; exact ⟨j1, j2⟩
    · cases hk; exact ⟨a1, a2⟩
    · cases hk
  · exact va_Nw.of (by have h2 := (List.mem_filter.mp hw).2; cases w <;> simp at h2; rfl) (hts w (List.mem_filter.mp hw).1)
  · obtain ⟨sc, x1, x2, -⟩ := hX
    have hs : s.heap[b]? = some scr := hs
    rw [x1] at hs
    cases hs
    exact x2
  · exact va_Nw.of (q_xwT hw) (hts w (of_decide_eq_true (List.all_eq_true.mp t_xw w hw)))
  · obtain ⟨a, c, cell, k, h1, -⟩ := Cond.exactly_spec (hfl _ (of_decide_eq_true (List.all_eq_true.mp t_xe q hq)))
    exact ⟨a, vk_R.of (hts _ (of_decide_eq_true (List.all_eq_true.mp t_xs q hq))) h1⟩
  · exact vx_Zqof (hts _ t_u1) (hts _ t_u3) (hfl _ t_u4) (fun a ha h => absurd ha (Nat.not_lt.mpr h))
  · exact vx_Zqof (hts _ t_u2) (hts _ t_u3) (hfl _ t_u5) (fun a ha h => absurd ha (Nat.not_lt.mpr h))
