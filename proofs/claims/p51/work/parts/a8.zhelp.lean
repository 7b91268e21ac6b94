/-! The law's helpers: what may throw, called; caught. An answer is what the method's type says. -/
noncomputable def z_ans (k : Nat) (r : Option zA) : Prop := match mR k with
  | none => r = none
  | some .long => ∃ v : Int, r = some (.inr (.inr v))
  | some _ => ∃ v : Int, r = some (.inl v) ∧ (-2147483648 ≤ v ∧ v ≤ 2147483647)
theorem z_ansI {k : Nat} {v : Int} (h : mR k = some .int ∨ mR k = some .boolean) : z_ans k (some (.inl (wr v))) := by
  unfold z_ans
  rcases h with h | h
  · rw [h]
    exact ⟨_, rfl, wrB v⟩
  · rw [h]
    exact ⟨_, rfl, wrB v⟩
theorem z_ansL {k : Nat} {v : Int} (h : mR k = some .long) : z_ans k (some (.inr (.inr v))) := by
  unfold z_ans
  rw [h]
  exact ⟨_, rfl⟩
theorem z_ansN {k : Nat} (h : mR k = none) : z_ans k none := by
  unfold z_ans
  rw [h]
/-- as zT, of a method that may throw: it ends with none then -/
noncomputable def zTX2 (x : zX) (D k : Nat) (g : zG) (κ : Option zA → zM → Prop) : Prop := ∀ (p : Program) (e : Env) (s : State) (m : MethodId) (args : Array Value) (below : List Frame) (meth : Method) (c : Code), q_Ctx p (q_rm D 1 6) s m args meth c x.2.1 x.2.2.1 x.2.2.2.1 x.2.2.2.2.1 k → meth.sig.returnType = mR k → meth.locks = false → (∀ y ∈ c.exceptionTable.toList, False) → x.1.stackTraces = false → (∀ q : Nat, q < x.2.2.2.2.1.size → s.heap[q]? = x.2.2.2.2.1[q]?) →
  zW p x.1 e (q_rm D 1 6) s m args below meth c 0 0 (vx_MQ below (zQ x (fun r m1 => z_ans k r ∧ κ r m1)) (zXC x κ) args s 1 6 (fun q => x.2.2.2.2.1.size ≤ q)) x.2.1 x.2.2.1 x.2.2.2.1 x.2.2.2.2.1 x.2.2.2.2.2 k g
noncomputable def zTt2 (x : zX) (D k : Nat) (g : zG) (κ : Option zA → zM → Prop) : Prop := (z_thr k = true → zTX2 x D k g κ) ∧ (z_thr k = false → zT x D k g (fun r m1 => z_ans k r ∧ κ r m1))
theorem zRulesP2 {x : zX} {stp : List (Nat × List Nat)} {n D k : Nat} {g : zG} {κ : Option zA → zM → Prop} (hk : z_thr k = false) (h : z_blk stp k (fun g1 => zTt2 x D k g1 κ) (zCall (zTt2 x) D κ k) κ (fun m => z_thr k = true ∧ κ none m) n g) : zT x D k g (fun r m1 => z_ans k r ∧ κ r m1) := by
  intro p e s m args below meth c C hret hlocks
  refine z_blkS (G := fun g1 => zTt2 x D k g1 κ) C (fun g1 h1 => h1.2 hk p e s m args below meth c C hret hlocks) (fun c0 as nx rs lo st pc mm site hcat hc0 hC => ?_) (fun r pc lo st mm hr hκ => ?_) (fun pc lo st mm _ _ _ hF => by rw [hk] at hF; exact absurd hF.1 (by decide)) n g h
  · unfold zCall at hC
    split at hC
    · exact hC.elim
    · rename_i D1
      obtain ⟨hb, hC⟩ := z_bif hC
      rw [Bool.and_eq_true] at hb
      have hpl := hb.1
      have hnt := z_plT hpl
      simp only [z_pl, Bool.and_eq_true] at hpl
      refine z_callS C site hcat (by have := q_blt hpl.1.1; omega) hpl.2 (Nat.le_of_ble_eq_true hb.2) (by show D1 + 1 + 8 ≤ D1 + 1 + 8; omega) (by show 80 * (D1 + 1) + 400 ≤ 80 * (D1 + 1) + 400; omega) (Nat.zero_le _) (Nat.zero_le _) (hC.2 hnt) (fun r m1 h1 => h1.2.2 hk p e s m args below meth c C hret hlocks)
  · rintro ls vs H locs ⟨hlo, rfl, hH, hlc⟩
    obtain ⟨nx, a1, a2, a3, z, hr⟩ := hr
    rcases hr with ⟨hi, v, rfl, rfl, hR⟩ | ⟨hi, v, rfl, rfl, hR⟩ | ⟨hi, rfl, rfl, hR⟩
    · obtain ⟨en, hd⟩ := q_dec (n := 1) hi rfl
      have ew : zv x.2.2.2.2.2 (.inl (wr v)) = zv x.2.2.2.2.2 (.inl v) := by
        show Value.int (Int32.ofInt (wr v)) = Value.int (Int32.ofInt v)
        rw [← wrE, z_ofN]
      rcases hR with hR | ⟨hR, hb⟩
      · exact W.iret C.1 C.2.1 (hret.trans hR) (fun t ht _ => ⟨some (.inl (wr v)), mm, congrArg (fun q => Outcome.returned (some q)) ew.symm, ⟨z_ansI (Or.inl hR), hκ⟩, by rw [ht]; exact hH⟩) hlc hd
      · refine W.zret (ty := .boolean) C.1 C.2.1 (hret.trans hR) ?_ (fun t ht _ => ⟨some (.inl (wr v)), mm, congrArg (fun q => Outcome.returned (some q)) ew.symm, ⟨z_ansI (Or.inr hR), hκ⟩, by rw [ht]; exact hH⟩) hlc hd
        exact (z_ffitS (ad := x.2.2.2.2.2) (ty := .boolean) hb).1
    · obtain ⟨en, hd⟩ := q_dec (n := 1) hi rfl
      exact W.lret C.1 C.2.1 (hret.trans hR) (fun t ht _ => ⟨some (.inr (.inr v)), mm, rfl, ⟨z_ansL hR, hκ⟩, by rw [ht]; exact hH⟩) hlc hd
    · obtain ⟨en, hd⟩ := q_dec (n := 1) hi rfl
      exact W.vret C.1 C.2.1 (hret.trans hR) (fun t ht _ => ⟨none, mm, rfl, ⟨z_ansN hR, hκ⟩, by rw [ht]; exact hH⟩) hlc hd
set_option maxHeartbeats 4000000 in
theorem zRulesX2 {x : zX} {stp : List (Nat × List Nat)} {n D k : Nat} {g : zG} {κ : Option zA → zM → Prop} (hk : z_thr k = true) (h : z_blk stp k (fun g1 => zTt2 x D k g1 κ) (zCall (zTt2 x) D κ k) κ (fun m => z_thr k = true ∧ κ none m) n g) : zTX2 x D k g κ := by
  intro p e s m args below meth c C hret hlocks htab hfl hsh
  have hkc := z_thrC hk
  have hcl : (mY k).cls = "SkirtsByTheDay" := by rcases hkc with rfl | rfl | rfl | rfl <;> rfl
  have hRi : mR k = some .int := by rcases hkc with rfl | rfl | rfl | rfl <;> rfl
  refine z_blkS (G := fun g1 => zTt2 x D k g1 κ) C (fun g1 h1 => h1.1 hk p e s m args below meth c C hret hlocks htab hfl hsh) (fun c0 as nx rs lo st pc mm site hcat hc0 hC => ?_) (fun r pc lo st mm hr hκ => ?_) (fun pc lo st mm g1 g2 h8 hF => ?_) n g h
  · unfold zCall at hC
    split at hC
    · exact hC.elim
    · rename_i D1
      obtain ⟨hb, hC⟩ := z_bif hC
      rw [Bool.and_eq_true] at hb
      have hpl := hb.1
      have hnt := z_plT hpl
      simp only [z_pl, Bool.and_eq_true] at hpl
      refine z_callS C site hcat (by have := q_blt hpl.1.1; omega) hpl.2 (Nat.le_of_ble_eq_true hb.2) (by show D1 + 1 + 8 ≤ D1 + 1 + 8; omega) (by show 80 * (D1 + 1) + 400 ≤ 80 * (D1 + 1) + 400; omega) (Nat.zero_le _) (Nat.zero_le _) (hC.2 hnt) (fun r m1 h1 => h1.2.1 hk p e s m args below meth c C hret hlocks htab hfl hsh)
  · rintro ls vs H locs ⟨hlo, rfl, hH, hlc⟩
    obtain ⟨nx, a1, a2, a3, z, hr⟩ := hr
    rcases hr with ⟨hi, v, rfl, rfl, hR⟩ | ⟨hi, v, rfl, rfl, hR⟩ | ⟨hi, rfl, rfl, hR⟩
    · obtain ⟨en, hd⟩ := q_dec (n := 1) hi rfl
      have ew : zv x.2.2.2.2.2 (.inl (wr v)) = zv x.2.2.2.2.2 (.inl v) := by
        show Value.int (Int32.ofInt (wr v)) = Value.int (Int32.ofInt v)
        rw [← wrE, z_ofN]
      refine vx_ret (W.widen (k := 1) (n := 6) (by omega) (by omega) ?_)
      exact W.iret C.1 C.2.1 (hret.trans hRi) (fun t ht _ => ⟨some (.inl (wr v)), mm, congrArg (fun q => Outcome.returned (some q)) ew.symm, ⟨z_ansI (Or.inl hRi), hκ⟩, by rw [ht]; exact hH⟩) hlc hd
    · rw [hRi] at hR
      cases hR
    · rw [hRi] at hR
      cases hR
  · rintro ls vs H locs ⟨hlo, rfl, hH, hlc⟩
    obtain ⟨n9, is, text, t1, t2, t3, t4, t5, t6⟩ := q_tsC hkc g2 g1
    obtain ⟨hx, hb, hml, hown, hts, hK, hnm, hRf, hRl⟩ := C
    obtain ⟨sa, hsa⟩ := hK.2.2.2.2.1 _ t1
    have hq0 : ∀ q : Nat, q < x.2.2.2.2.1.size → ¬ x.2.2.2.2.1.size ≤ q → s.heap[q]? = x.2.2.2.2.1[q]? := fun q hq _ => hsh q hq
    have hst2 : ((st.map (zv x.2.2.2.2.2)).map fun v => v.category).sum ≤ 8 := by
      rw [z_catsS]
      exact h8
    rw [hcl] at hown
    refine q_throw (own := "SkirtsByTheDay") (cls := q_nse) (Y0 := "java/lang/RuntimeException") (rr := ["java/lang/Exception"]) (ik := 119) (is := is) (ic := 123) (i1 := 13) (by1 := q_b13) (A := fun q => x.2.2.2.2.1.size ≤ q) hx hb hfl (by decide +kernel) (by decide +kernel) (by decide +kernel) (by decide +kernel) hown (by decide) (by decide) (by decide)
      (hts _ q_own_k) (hts _ q_own_i) hsa (q_hat hts hK.2.2.2) (List.all_eq_true.mp q_own_o) (hK.2.2.2.2.2.1.kept hq0) (hK.2.2.2.2.2.2.kept hq0) (fun q hq1 hq2 => ?_) (by rw [hml]; exact hlo.1) t2 t3 t4 t5 t6 (fun y hy => (htab y hy).elim)
      (by show 1 + 4 < D + 8; omega) (by show ((st.map (zv x.2.2.2.2.2)).map fun v => v.category).sum + (13 * (1 + 2) + 43) ≤ 80 * D + 400; omega) (by show 0 + 1 ≤ 1; omega) (by show 0 + 6 ≤ 6; omega) hlocks (fun t hA hz hq => ?_) hlc (by omega) (by omega)
    · have hq3 : q < x.2.2.2.2.1.size := Nat.lt_of_not_le hq2
      rw [hH.1 q hq3, hsh q hq3]
    · exact ⟨rfl, mm, hF.2, hH.grow hz hq⟩
theorem zRulesS2 (x : zX) : zRules (zTt2 x) := ⟨fun _ _ _ _ _ _ h => ⟨fun hk => zRulesX2 hk h, fun hk => zRulesP2 hk h⟩, fun ks D k pc lo st mm κ h => ⟨fun hk p e s m args below meth c C hret hlocks htab hfl hsh ls vs H locs F => h.1 hk p e s m args below meth c C hret hlocks htab hfl hsh ls vs H locs ⟨z_keepS ks F.1, F.2⟩, fun hk p e s m args below meth c C hret hlocks ls vs H locs F => h.2 hk p e s m args below meth c C hret hlocks ls vs H locs ⟨z_keepS ks F.1, F.2⟩⟩⟩
/-- a method that may throw, as the law's helpers call it -/
theorem z_metX2 {x : zX} {κ : Option zA → zM → Prop} {D c : Nat} {as : List zA} {mm : zM} {H0 : Heap} (hk : z_thr c = true) (hfl : x.1.stackTraces = false) (hcat : z_cats as ≤ mL c) (hH : zH x.2.1 x.2.2.1 x.2.2.2.1 x.2.2.2.2.1 x.2.2.2.2.2 mm H0) (hT : zTX2 x D c (0, z_args 0 as, [], mm) κ) :
    vx_Met x.1 (mY c) (q_ws c) (q_rm D 1 6) (q_Pc x.2.1 x.2.2.1 x.2.2.2.1 x.2.2.2.2.1 H0 (as.map (zv x.2.2.2.2.2))) (zQ x (fun r m1 => z_ans c r ∧ κ r m1)) (zXC x κ) 1 6 (fun q => x.2.2.2.2.1.size ≤ q) := by
  have hkc := z_thrC hk
  have hk2 : c < 302 := by omega
  have hp : c_plain c = true := by rcases hkc with rfl | rfl | rfl | rfl <;> rfl
  have hcl : (mY c).cls = "SkirtsByTheDay" := by rcases hkc with rfl | rfl | rfl | rfl <;> rfl
  have hpn : plainName (mY c).cls = true := by rw [hcl]; decide +kernel
  obtain ⟨w1, w2, w3, w4, w5, w6, w7⟩ := q_MW (q_meth hk2 hp)
  refine vx_ofW (cc := mC c) (maxL := mL c) (ret := mR c) hpn rfl ?_
  intro p e s m args below meth cd s₁ B hml htab hv
  obtain ⟨rfl, hK, hHH⟩ := hv
  have hts0 := atoms_spec (ws := q_ws c) B.pre
  have hts : ∀ w ∈ tb, w.before (as.map (zv x.2.2.2.2.2)).toArray s = true := fun w hw => hts0 w (List.mem_cons_of_mem _ hw)
  have hown : s.vm.findClass (mY c).cls = some m.cls := findClass_of_methodNamed B.named
  have hlocks := B.notSynchronized
  have hnm : meth.name = (mY c).name := (name_of_methodNamed B.named B.method).1
  have hret := B.returns
  have C : q_Ctx p (q_rm D 1 6) s m (as.map (zv x.2.2.2.2.2)).toArray meth cd x.2.1 x.2.2.1 x.2.2.2.1 x.2.2.2.2.1 c := ⟨B.exec, B.bytes, hml, hown, hts, hK, fun q => hnm.trans q, by show 8 ≤ D + 8; omega, by show 400 ≤ 80 * D + 400; omega⟩
  have hl := lv_entry (as.map (zv x.2.2.2.2.2)) (n := mL c) (by rw [q_slN, z_catsS]; exact hcat)
  rw [lg_entry_eq, hHH]
  generalize (lg_sl (as.map (zv x.2.2.2.2.2)) ++ List.replicate (mL c - (lg_sl (as.map (zv x.2.2.2.2.2))).length) Slot.unset).toArray = ls at hl ⊢
  exact hT p e s m _ below meth cd C hret hlocks htab hfl (fun q hq => by rw [hHH]; exact hH.1 q hq) ls [] H0 [] ⟨⟨hl.1, hl.2.1, fun q hq => hl.2.2 q (z_argsL 0 q hq)⟩, rfl, hH, fun q hq => nomatch hq⟩

noncomputable def zpH (c : Nat) : Nat := bif Nat.blt c 300 then 5 else 4
/-- the helper's call is a call upon one -/
noncomputable def zHI (c : Nat) : Bool := match ins c (zpH c) with
  | some (.invokevirtual _, _) => true
  | _ => false
noncomputable def zCallH (x : zX) (D : Nat) (κ : Option zA → zM → Prop) (c kc c0 : Nat) (as : List zA) (f : zG) : Prop := kc = c0 ∧ f.1 = zpH c + 3 ∧ z_cats as ≤ mL kc ∧ ∃ κ1 : Option zA → zM → Prop, zTX2 x D kc (0, z_args 0 as, [], f.2.2.2) κ1 ∧ (∀ r m1, z_ans kc (some r) → κ1 (some r) m1 → z_blk [] c (fun _ => False) (fun _ _ _ => False) κ (fun _ => False) 20 (f.1, f.2.1, r :: f.2.2.1, m1)) ∧ (∀ m1, κ1 none m1 → κ (some (zi 1)) m1)
set_option maxHeartbeats 8000000 in
theorem z_metH {x : zX} {κ : Option zA → zM → Prop} {D c kc : Nat} {as : List zA} {mm : zM} {H0 : Heap} (hfl : x.1.stackTraces = false) (hh : q_HK c kc) (hI : zHI c = true) (hcat : z_cats as ≤ mL c) (hH : zH x.2.1 x.2.2.1 x.2.2.2.1 x.2.2.2.2.1 x.2.2.2.2.2 mm H0) (hB : z_blk [] c (fun _ => False) (zCallH x D κ c kc) (fun _ _ => False) (fun _ => False) 20 (0, z_args 0 as, [], mm)) :
    Met x.1 (mY c) (q_wsH c) (q_rm (D + 1) 1 6) (q_Pc x.2.1 x.2.2.1 x.2.2.2.1 x.2.2.2.2.1 H0 (as.map (zv x.2.2.2.2.2))) (zQ x κ) 1 6 (fun q => x.2.2.2.2.1.size ≤ q) := by
  obtain ⟨l, dC, dI, dA, Hb, ad⟩ := x
  dsimp only at hfl hH ⊢
  obtain ⟨hHh, hD, hc1, hc2, hkc⟩ := hh
  obtain ⟨w1, w2, w3, w4, w5, w6, w7, w8, w9⟩ := q_HW hHh
  have htk : z_thr kc = true := by rcases hkc with rfl | rfl | rfl | rfl <;> rfl
  have hkc2 : kc < 302 := by omega
  have hkcp : c_plain kc = true := by rcases hkc with rfl | rfl | rfl | rfl <;> rfl
  refine q_ofWH (cc := mC c) (maxL := mL c) (ret := mR c) (hh := q_hh c) w3 rfl ?_
  intro p e s m args below meth cd s₁ B hml hv0
  obtain ⟨rfl, hK, hHe⟩ := hv0
  have hts0 := atoms_spec (ws := q_wsH c) B.pre
  have hts : ∀ w ∈ tb, w.before (as.map (zv ad)).toArray s = true := fun w hw => hts0 w (List.mem_cons_of_mem _ hw)
  have hown : s.vm.findClass (mY c).cls = some m.cls := findClass_of_methodNamed B.named
  have hlocks := B.notSynchronized
  have hret : meth.sig.returnType = mR c := B.returns
  have hnm : meth.name = (mY c).name := (name_of_methodNamed B.named B.method).1
  have htab : cd.exceptionTable.toList = tableOf (q_hh c) := vx_table (x := mY c) B (hts _ w1)
  have C : q_Ctx p (q_rm (D + 1) 1 6) s m (as.map (zv ad)).toArray meth cd dC dI dA Hb c := ⟨B.exec, B.bytes, hml, hown, hts, hK, fun q => hnm.trans q, by show 8 ≤ D + 1 + 8; omega, by show 400 ≤ 80 * (D + 1) + 400; omega⟩
  have hl := lv_entry (as.map (zv ad)) (n := mL c) (by rw [q_slN, z_catsS]; exact hcat)
  rw [lg_entry_eq]
  generalize (lg_sl (as.map (zv ad)) ++ List.replicate (mL c - (lg_sl (as.map (zv ad))).length) Slot.unset).toArray = ls at hl ⊢
  show W p l e (q_rm (D + 1) 1 6) s m (as.map (zv ad)).toArray below meth cd s.heap [] 0 0 _ _
  rw [hHe]
  refine z_blkS (dC := dC) (dI := dI) (dA := dA) (Hb := Hb) (ad := ad) C (fun g h => h.elim) (fun c0 as2 nx rs lo st pc mm1 site hcr hc0 hC => ?_) (fun r pc lo st mm1 _ h => h.elim) (fun pc lo st mm1 _ _ _ h => h.elim) 20 _ hB ls [] H0 [] ⟨⟨hl.1, hl.2.1, fun q hq => hl.2.2 q (z_argsL 0 q hq)⟩, rfl, hH, fun q hq => nomatch hq⟩
  obtain ⟨e0, e1, hca2, κ1, hT, hok, hno⟩ := hC
  subst e0
  dsimp only at e1 hca2 hT hok
  rintro ls1 vs1 H1 locs1 ⟨hlo1, rfl, hH1, hlc1⟩
  show W p l e (q_rm (D + 1) 1 6) s m (as.map (zv ad)).toArray below meth cd H1 locs1 0 0 _ (F0 m pc ls1 (st.map (zv ad)))
  obtain ⟨xi, a2, a3, z, site⟩ := site
  rcases site with ⟨hi, ht⟩ | ⟨hi, ht, q, as', rfl, hq⟩
  · exfalso
    obtain ⟨en, hd⟩ := q_dec (n := 3) hi rfl
    have en' : nx = pc + 3 := en
    have epc : pc = zpH c := by omega
    unfold zHI at hI
    rw [← epc, hi] at hI
    cases hI
  · obtain ⟨en, hd⟩ := q_dec (n := 3) hi rfl
    have en' : nx = pc + 3 := en
    have hc := (q_rowI hi).2.2.1
    simp only [c_I, nMth, q_bleF (show kc < 303 by omega), Bool.false_or, Bool.and_eq_true] at hc
    have ea2 := Nat.eq_of_beq_eq_true hc.2
    obtain ⟨ws, rfl, e2, g3⟩ := z_takeS ht
    rw [List.append_nil] at e2
    have hws : ws = as'.reverse ++ [.inr (.inl (some q))] := by
      have := congrArg List.reverse e2
      rw [List.reverse_reverse, List.reverse_cons] at this
      exact this.symm
    have hlen : (as'.map (zv ad)).length = mP kc := by
      have h9 := congrArg List.length e2
      rw [List.length_cons, List.length_reverse, g3] at h9
      rw [List.length_map]
      omega
    have hq0 := hc.1.2
    unfold c_cls at hq0
    split at hq0
    · rename_i q0 hq1
      have hq2 := of_decide_eq_true hq0
      obtain ⟨hkd, hk0⟩ := z_ciS hq hq1
      obtain ⟨gb, w9', k2, cell, k3, k4, k5, k6⟩ := hH1.2.2.2.1 _ _ hk0 hkd
      have hcl9 : s.vm.findClass (mY kc).cls = some cell.cls := by rw [← hq2, k4]; exact (hK.1.1 _ _ hq1).2.1
      obtain ⟨v1', v2', v3', v4', v5', v6', v7'⟩ := q_MW (q_meth hkc2 hkcp)
      have hM := z_metX2 (x := (l, dC, dI, dA, Hb, ad)) htk hfl hca2 hH1 hT
      dsimp only at hM
      have hroom : (q_rm D 1 6).frames + 1 ≤ (q_rm (D + 1) 1 6).frames ∧ 8 + (mL kc + 11) + (q_rm D 1 6).locals ≤ (q_rm (D + 1) 1 6).locals := ⟨by show D + 8 + 1 ≤ D + 1 + 8; omega, q_key0 (by show 80 * D + 480 ≤ 80 * (D + 1) + 400; omega) _ v7'⟩
      have hrun := vx_runV (p := p) (e := e) (R := q_rm (D + 1) 1 6) (below := below) (meth := meth) (locs := locs1) (cells := 0) (slots := 0) (g := F0 m pc ls1 ((ws ++ rs).map (zv ad))) (As := as'.map (zv ad)) (rest := rs.map (zv ad)) (b := ad q) (C := (mY kc).cls) ⟨C.1, C.2.1, hml, hown, hts⟩ hM
        ⟨callB_of (R := q_rm (D + 1) 1 6) (mP kc) hts (q_good v1') rfl rfl rfl (hts _ v2') (hts _ (wAt_mem hc.1.1.1.1.2)) ⟨v4', v5', v6'⟩ hroom, hts _ (wAt_mem hc.1.1.1.2), hts _ (wAt_mem hc.1.1.2)⟩
        ⟨fun a U g mk q => ⟨q.1, q.2.1.calling, q.2.2⟩, ⟨cell, k3, by rw [k5]; rfl, hcl9⟩, fun U hU hW => ⟨rfl, hK.moved hW, hU⟩⟩ rfl hlen hlo1.1 (by rw [hws, List.map_append, List.map_append, List.map_reverse, List.append_assoc]; rfl) (lv_room (by rw [z_catsS]; exact hcr)) hd ⟨by rw [Nat.zero_add]; exact Nat.le_refl _, by rw [Nat.zero_add]; exact Nat.le_refl _⟩
      intro T hTT XT
      rcases hrun T hTT XT with ⟨v, st₀, t, T', L9, a0, X', hL9, a1, a2', hq9, st9⟩ | ⟨q9, st₀, t, T', L9, E9, ce, a0, X', hL9, a1, a2', hXC, hce, hcv, hcl, st9⟩
      · obtain ⟨r, m1, hr, ⟨hrn, hκ⟩, hh1⟩ := hq9
        cases hr
        cases r with
        | none =>
          unfold z_ans at hrn
          have hi1 : mR kc = some .int := by rcases hkc with rfl | rfl | rfl | rfl <;> rfl
          rw [hi1] at hrn
          obtain ⟨v, hv, -⟩ := hrn
          cases hv
        | some ra =>
          have hlx : ∀ z ∈ locs1 ++ L9, Hb.size ≤ z.base := fun z hz => by
            rcases List.mem_append.mp hz with hz | hz
            · exact hlc1 z hz
            · exact hL9 z hz
          have KW : W p l e (q_rm (D + 1) 1 6) s m (as.map (zv ad)).toArray below meth cd t.heap (locs1 ++ L9) 1 6 (MQ below (zQ (l, dC, dI, dA, Hb, ad) κ) (as.map (zv ad)).toArray s 1 6 (fun q => Hb.size ≤ q)) (F0 m nx ls1 ((ra :: rs).map (zv ad))) := by
            refine z_blkS (dC := dC) (dI := dI) (dA := dA) (Hb := Hb) (ad := ad) (cells := 1) (slots := 6) C (fun g h => h.elim) (fun _ _ _ _ _ _ _ _ _ _ _ h => h.elim) (fun r pc2 lo2 st2 mm2 hr hκ2 => ?_) (fun _ _ _ _ _ _ _ h => h.elim) 20 (nx, lo, ra :: rs, m1) (hok ra m1 hrn hκ) ls1 _ t.heap (locs1 ++ L9) ⟨hlo1, rfl, hh1, hlx⟩
            rintro ls2 vs2 H2 locs2 ⟨hlo2, rfl, hH2, hlc2⟩
            obtain ⟨nx2, b1, b2, b3, z2, hr⟩ := hr
            rcases hr with ⟨hi2, v, rfl, rfl, hR⟩ | ⟨hi2, v, rfl, rfl, hR⟩ | ⟨hi2, rfl, rfl, hR⟩
            · obtain ⟨en2, hd2⟩ := q_dec (n := 1) hi2 rfl
              have ew : zv ad (.inl (wr v)) = zv ad (.inl v) := by
                show Value.int (Int32.ofInt (wr v)) = Value.int (Int32.ofInt v)
                rw [← wrE, z_ofN]
              exact W.iret C.1 C.2.1 (hret.trans w8) (fun t ht _ => ⟨some (.inl (wr v)), mm2, congrArg (fun q => Outcome.returned (some q)) ew.symm, hκ2, by rw [ht]; exact hH2⟩) hlc2 hd2
            · rw [w8] at hR
              cases hR
            · rw [w8] at hR
              cases hR
          obtain ⟨t2, b9, c9⟩ := KW T' (by rw [a1]) X'
          exact ⟨t2, st9 t2 (by rw [en'] at b9; exact b9), c9⟩
      · obtain ⟨hE9, m1, hκ, hh1⟩ := hXC
        subst hE9
        have hlx : ∀ z ∈ locs1 ++ L9, Hb.size ≤ z.base := fun z hz => by
          rcases List.mem_append.mp hz with hz | hz
          · exact hlc1 z hz
          · exact hL9 z hz
        have fin : ∀ (pcx : Nat) (lsx : Array Slot), decode (mC c) pcx = .ok (.iconst 1, 1) → decode (mC c) (pcx + 1) = .ok (.ireturn, 1) → W p l e (q_rm (D + 1) 1 6) s m (as.map (zv ad)).toArray below meth cd T'.heap (locs1 ++ L9) (0 + 1) (0 + 6) (MQ below (zQ (l, dC, dI, dA, Hb, ad) κ) (as.map (zv ad)).toArray s 1 6 (fun q => Hb.size ≤ q)) (F0 m pcx lsx []) := by
          intro pcx lsx d1 d2
          refine lv_iconst (v := 1) C.1 C.2.1 d1 rfl ?_
          rw [Nat.zero_add, Nat.zero_add]
          exact W.iret C.1 C.2.1 (hret.trans w8) (fun t3 ht3 _ => ⟨some (zi 1), m1, rfl, hno m1 hκ, by rw [ht3, a1]; exact hh1⟩) hlx d2
        have hlink : ∀ en : ExceptionTableEntry, en.catchType = 13 → (Cond.classLink (mY c).cls en.catchType q_nse).before (as.map (zv ad)).toArray s = true := fun en hen => by rw [hen, w9]; exact hts _ q_own_c
        rcases hD with ⟨d0, d1, d2, d3, d4⟩ | ⟨d0, d1, d2, d3, d4⟩
        · have nb : Nat.blt c 300 = true := Nat.ble_eq_true_of_le d0
          have epc : pc = 5 := by
            unfold zpH at e1
            rw [nb] at e1
            simp only [cond_true] at e1
            omega
          have ehh : q_hh c = [(0, 10, 13, 13)] := by unfold q_hh; rw [nb]; rfl
          rw [ehh] at htab
          have KX : vx_W p l e (q_rm (D + 1) 1 6) s m (as.map (zv ad)).toArray below meth cd T'.heap (locs1 ++ L9) (0 + 1) (0 + 6) (MQ below (zQ (l, dC, dI, dA, Hb, ad) κ) (as.map (zv ad)).toArray s 1 6 (fun q => Hb.size ≤ q)) (F0 m pc ls1 (rs.map (zv ad))) q9 :=
            vx_catch (name := q_nse) hown [] { startPc := 0, endPc := 10, handlerPc := 13, catchType := 13 } [] htab (fun z hz => nomatch hz) (by rw [epc]; rfl) (by decide) (hlink _ rfl) (va_Nw.use rfl (hK.2.2.2.1 _ (by simp [q_xw]))) (by rw [a1]; exact hce) hcv hcl (by
              refine lv_astore C.1 C.2.1 d2 hlo1 (by rw [d1]; decide) rfl (fun ls' _ => ?_)
              exact fin 15 ls' d3 d4)
          obtain ⟨t2, a9, b9⟩ := KX T' rfl X'
          exact ⟨t2, st9.trans a9, b9⟩
        · have nb : Nat.blt c 300 = false := by
            cases hb : Nat.blt c 300 with
            | false => rfl
            | true =>
              have := Nat.le_of_ble_eq_true hb
              omega
          have epc : pc = 4 := by
            unfold zpH at e1
            rw [nb] at e1
            simp only [cond_false] at e1
            omega
          have ehh : q_hh c = [(0, 9, 12, 13)] := by unfold q_hh; rw [nb]; rfl
          rw [ehh] at htab
          have KX : vx_W p l e (q_rm (D + 1) 1 6) s m (as.map (zv ad)).toArray below meth cd T'.heap (locs1 ++ L9) (0 + 1) (0 + 6) (MQ below (zQ (l, dC, dI, dA, Hb, ad) κ) (as.map (zv ad)).toArray s 1 6 (fun q => Hb.size ≤ q)) (F0 m pc ls1 (rs.map (zv ad))) q9 :=
            vx_catch (name := q_nse) hown [] { startPc := 0, endPc := 9, handlerPc := 12, catchType := 13 } [] htab (fun z hz => nomatch hz) (by rw [epc]; rfl) (by decide) (hlink _ rfl) (va_Nw.use rfl (hK.2.2.2.1 _ (by simp [q_xw]))) (by rw [a1]; exact hce) hcv hcl (by
              refine lv_astore_n C.1 C.2.1 d2 rfl hlo1 (by rw [d1]; decide) rfl (fun ls' _ => ?_)
              exact fin 13 ls' d3 d4)
          obtain ⟨t2, a9, b9⟩ := KX T' rfl X'
          exact ⟨t2, st9.trans a9, b9⟩
    · cases hq0
