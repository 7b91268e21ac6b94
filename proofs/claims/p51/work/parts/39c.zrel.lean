/-! What Z's words mean of the true machine. -/
theorem wrE (a : Int) : (Int32.ofInt a).toInt = wr a := by
  have e : (Int32.ofInt a).toInt = Int.bmod a 4294967296 := Int32.toInt_ofInt
  have b := Int.bmod_def a 4294967296
  simp only [wr_def]
  rw [e, b]
  split <;> omega
theorem wlE (a : Int) : (Int64.ofInt a).toInt = wl a := by
  have e : (Int64.ofInt a).toInt = Int.bmod a 18446744073709551616 := Int64.toInt_ofInt
  have b := Int.bmod_def a 18446744073709551616
  simp only [wl_def]
  rw [e, b]
  split <;> omega
theorem wr_id {a : Int} (h1 : -2147483648 ≤ a) (h2 : a ≤ 2147483647) : wr a = a := by
  simp only [wr_def]
  omega
theorem wrB (a : Int) : -2147483648 ≤ wr a ∧ wr a ≤ 2147483647 := by
  simp only [wr_def]
  omega
theorem z_eq32 {x y : Int32} (h : x.toInt = y.toInt) : x = y := Int32.toInt_inj.mp h
theorem z_eqS {a b : Int} : (Int32.ofInt a = Int32.ofInt b) ↔ wr a = wr b := by
  rw [← Int32.toInt_inj, wrE, wrE]
theorem z_ltS {a b : Int} : (Int32.ofInt a < Int32.ofInt b) ↔ wr a < wr b := by
  rw [Int32.lt_iff_toInt_lt, wrE, wrE]
theorem z_cmpS (c : ClassFile.Cond) (a b : Int) : q_holds c (Int32.ofInt a) (Int32.ofInt b) ↔ z_tst c (wr a) (wr b) := by
  cases c
  · exact z_eqS
  · exact not_congr z_eqS
  · exact z_ltS
  · exact not_congr z_ltS
  · exact z_ltS
  · exact not_congr z_ltS
theorem z_ofN {x : Int32} : Int32.ofInt x.toInt = x := Int32.ofInt_toInt x
theorem z_bip {c : Int} (h1 : -128 ≤ c) (h2 : c ≤ 127) : (Int8.ofInt c).toInt32 = Int32.ofInt c := by
  refine z_eq32 ?_
  rw [Int8.toInt_toInt32, Int8.toInt_ofInt_of_le (by omega) (by omega), Int32.toInt_ofInt_of_le (by omega) (by omega)]
theorem z_sip {c : Int} (h1 : -32768 ≤ c) (h2 : c ≤ 32767) : (Int16.ofInt c).toInt32 = Int32.ofInt c := by
  refine z_eq32 ?_
  rw [Int16.toInt_toInt32, Int16.toInt_ofInt_of_le (by omega) (by omega), Int32.toInt_ofInt_of_le (by omega) (by omega)]
theorem z_divS (a b : Int) : Int32.ofInt a / Int32.ofInt b = Int32.ofInt (Int.tdiv (wr a) (wr b)) := by
  refine z_eq32 ?_
  have e : (Int32.ofInt (Int.tdiv (wr a) (wr b))).toInt = Int.bmod (Int.tdiv (wr a) (wr b)) 4294967296 := Int32.toInt_ofInt
  rw [Int32.toInt_div, wrE, wrE, e]
theorem z_remS (a b : Int) : Int32.ofInt a - Int32.ofInt a / Int32.ofInt b * Int32.ofInt b = Int32.ofInt (Int.tmod (wr a) (wr b)) := by
  refine z_eq32 ?_
  have e : (Int32.ofInt (Int.tmod (wr a) (wr b))).toInt = Int.bmod (Int.tmod (wr a) (wr b)) 4294967296 := Int32.toInt_ofInt
  have e2 : (Int32.ofInt a - Int32.ofInt a / Int32.ofInt b * Int32.ofInt b).toInt = Int.bmod (wr a - Int.bmod (Int.bmod (Int.tdiv (wr a) (wr b)) 4294967296 * wr b) 4294967296) 4294967296 := by
    rw [Int32.toInt_sub, Int32.toInt_mul, Int32.toInt_div, wrE, wrE]
  rw [e, e2, Int.bmod_mul_bmod, Int.sub_bmod_bmod, Int.tmod_def, Int.mul_comm]
theorem z_ldivS (a b : Int) : Int64.ofInt a / Int64.ofInt b = Int64.ofInt (Int.tdiv (wl a) (wl b)) := by
  refine Int64.toInt_inj.mp ?_
  have e : (Int64.ofInt (Int.tdiv (wl a) (wl b))).toInt = Int.bmod (Int.tdiv (wl a) (wl b)) 18446744073709551616 := Int64.toInt_ofInt
  rw [Int64.toInt_div, wlE, wlE, e]
theorem z_lremS (a b : Int) : Int64.ofInt a - Int64.ofInt a / Int64.ofInt b * Int64.ofInt b = Int64.ofInt (Int.tmod (wl a) (wl b)) := by
  refine Int64.toInt_inj.mp ?_
  have e : (Int64.ofInt (Int.tmod (wl a) (wl b))).toInt = Int.bmod (Int.tmod (wl a) (wl b)) 18446744073709551616 := Int64.toInt_ofInt
  have e2 : (Int64.ofInt a - Int64.ofInt a / Int64.ofInt b * Int64.ofInt b).toInt = Int.bmod (wl a - Int.bmod (Int.bmod (Int.tdiv (wl a) (wl b)) 18446744073709551616 * wl b) 18446744073709551616) 18446744073709551616 := by
    rw [Int64.toInt_sub, Int64.toInt_mul, Int64.toInt_div, wlE, wlE]
  rw [e, e2, Int.bmod_mul_bmod, Int.sub_bmod_bmod, Int.tmod_def, Int.mul_comm]
theorem z_neS {b : Int} (h : ¬ wr b = 0) : ¬ Int32.ofInt b = 0 := fun q => h (by rw [← wrE, q]; rfl)
theorem z_lneS {b : Int} (h : ¬ wl b = 0) : ¬ Int64.ofInt b = 0 := fun q => h (by rw [← wlE, q]; rfl)
theorem z_i2b (a : Int) : (Int32.ofInt a).toInt8.toInt32 = Int32.ofInt (z_b8 a) := by
  refine z_eq32 ?_
  have e : ((Int32.ofInt a).toInt8.toInt32).toInt = Int.bmod (wr a) 256 := by
    rw [Int8.toInt_toInt32, Int32.toInt_toInt8, wrE]
  have b := Int.bmod_def (wr a) 256
  rw [e, b, wrE]
  unfold z_b8
  simp only [wr_def]
  split <;> omega
theorem z_i2s (a : Int) : (Int32.ofInt a).toInt16.toInt32 = Int32.ofInt (z_s16 a) := by
  refine z_eq32 ?_
  have e : ((Int32.ofInt a).toInt16.toInt32).toInt = Int.bmod (wr a) 65536 := by
    rw [Int16.toInt_toInt32, Int32.toInt_toInt16, wrE]
  have b := Int.bmod_def (wr a) 65536
  rw [e, b, wrE]
  unfold z_s16
  simp only [wr_def]
  split <;> omega
theorem z_natS (a : Int) : ((Int32.ofInt a).toBitVec.toNat : Int) = a % 4294967296 := by
  have e : (Int32.ofInt a).toBitVec.toNat = (a % 4294967296).toNat := BitVec.toNat_ofInt a
  rw [e]
  omega
theorem z_i2c (a : Int) : ((Int32.ofInt a).toUInt32 % 65536).toInt32 = Int32.ofInt (a % 65536) := by
  refine z_eq32 ?_
  have eN : (((Int32.ofInt a).toUInt32 % 65536).toInt32).toBitVec.toNat = (Int32.ofInt a).toBitVec.toNat % 65536 := by
    show ((Int32.ofInt a).toUInt32 % 65536).toBitVec.toNat = _
    rw [UInt32.toBitVec_mod, BitVec.toNat_umod]
    rfl
  have e := s_ofnat (z := ((Int32.ofInt a).toUInt32 % 65536).toInt32) (by rw [eN]; omega)
  rw [eN] at e
  have e2 := z_natS a
  rw [e, wrE]
  simp only [wr_def]
  omega
theorem z_i2l (a : Int) : (Int32.ofInt a).toInt64 = Int64.ofInt (wr a) := by
  rw [← wrE, Int64.ofInt_int32ToInt]
theorem z_l2i (a : Int) : (Int64.ofInt a).toInt32 = Int32.ofInt (wl a) := by
  rw [← wlE, Int32.ofInt_int64ToInt]
theorem z_lcS (a b : Int) : lg_cmp (Int64.ofInt a) (Int64.ofInt b) = Int32.ofInt (z_lc a b) := by
  unfold lg_cmp z_lc
  have h1 : (Int64.ofInt a > Int64.ofInt b) ↔ wl b < wl a := by
    show (Int64.ofInt b < Int64.ofInt a) ↔ _
    rw [Int64.lt_iff_toInt_lt, wlE, wlE]
  have h2 : (Int64.ofInt a = Int64.ofInt b) ↔ wl a = wl b := by
    rw [← Int64.toInt_inj, wlE, wlE]
  by_cases c1 : wl b < wl a
  · rw [if_pos (h1.mpr c1), if_pos c1]
    rfl
  · rw [if_neg (fun q => c1 (h1.mp q)), if_neg c1]
    by_cases c2 : wl a = wl b
    · rw [if_pos (h2.mpr c2), if_pos c2]
      rfl
    · rw [if_neg (fun q => c2 (h2.mp q)), if_neg c2]
      rfl
/-- an index -/
theorem z_ixS {i : Int} {n : Nat} (h : z_ix i (n : Int)) : vp_in (Int32.ofInt i) n ∧ (wr i).toNat < n ∧ (Int32.ofInt i).toNatClampNeg = (wr i).toNat := by
  obtain ⟨h1, h2⟩ := h
  refine ⟨vp_in_iff.mpr ?_, by omega, ?_⟩
  · rw [wrE]
    exact ⟨h1, h2⟩
  · show (Int32.ofInt i).toInt.toNat = _
    rw [wrE]
/-- a value -/
noncomputable def zv (ad : Nat → Nat) : zA → Value
  | .inl z => .int (Int32.ofInt z)
  | .inr (.inl o) => q_rf ad o
  | .inr (.inr z) => .long (Int64.ofInt z)
theorem z_catS (ad : Nat → Nat) (a : zA) : (zv ad a).category = z_cat a := by
  rcases a with z | o | z
  · rfl
  · rcases o with _ | o <;> rfl
  · rfl
theorem z_catsS (ad : Nat → Nat) : ∀ st : List zA, ((st.map (zv ad)).map fun v => v.category).sum = z_cats st
  | [] => rfl
  | a :: st => by
    have e := z_catsS ad st
    simp only [z_cats, List.map_cons, List.sum_cons] at e ⊢
    rw [e, z_catS]
noncomputable def z_lm (ad : Nat → Nat) (lo : zL) : List (Nat × Value) := lo.map (fun q => (q.1, zv ad q.2))
theorem z_lgetM : ∀ {lo : zL} {i : Nat} {a : zA}, z_lget lo i = some a → (i, a) ∈ lo
  | [], i, a, h => by cases h
  | q :: rr, i, a, h => by
    simp only [z_lget, cond_eq_ite] at h
    split at h
    · rename_i e
      cases h
      rw [← Nat.eq_of_beq_eq_true e]
      exact List.mem_cons_self
    · exact List.mem_cons_of_mem _ (z_lgetM h)
theorem z_lgetS {ad : Nat → Nat} {lo : zL} {ls : Array Slot} {n i : Nat} {a : zA} (h : lv_has ls n (z_lm ad lo)) (hi : z_lget lo i = some a) : ls[i]? = some (.val (zv ad a)) := h.2.2 (i, zv ad a) (List.mem_map.mpr ⟨_, z_lgetM hi, rfl⟩)
theorem z_insM {i : Nat} {a : zA} : ∀ {lo : zL} {q : Nat × zA}, q ∈ z_ins i a lo → q = (i, a) ∨ q ∈ lo
  | [], q, h => Or.inl (List.mem_singleton.mp h)
  | x :: r, q, h => by
    unfold z_ins at h
    cases hb : Nat.blt i x.1 with
    | true =>
      rw [hb] at h
      exact List.mem_cons.mp h
    | false =>
      rw [hb] at h
      rcases List.mem_cons.mp h with h | h
      · exact Or.inr (h ▸ List.mem_cons_self)
      · rcases z_insM h with h | h
        · exact Or.inl h
        · exact Or.inr (List.mem_cons_of_mem _ h)
theorem z_lsetS {ad : Nat → Nat} {lo : zL} {ls : Array Slot} {n i : Nat} {a : zA} (h : lv_has ls n ((i, zv ad a) :: (z_lm ad lo).filter (fun q => !(q.1 == i) && !(q.1 + 1 == i && q.2.category == 2)))) : lv_has ls n (z_lm ad (z_lset lo i a)) := by
  refine ⟨h.1, h.2.1, fun q hq => ?_⟩
  obtain ⟨q0, h0, rfl⟩ := List.mem_map.mp hq
  rcases z_insM h0 with rfl | h1
  · exact h.2.2 _ List.mem_cons_self
  · obtain ⟨g1, g2⟩ := List.mem_filter.mp h1
    refine h.2.2 _ (List.mem_cons_of_mem _ (List.mem_filter.mpr ⟨List.mem_map.mpr ⟨q0, g1, rfl⟩, ?_⟩))
    show (!(q0.1 == i) && !(q0.1 + 1 == i && (zv ad q0.2).category == 2)) = true
    rw [z_catS, q_beqE, q_beqE, q_beqE]
    exact g2
theorem z_lset2S {ad : Nat → Nat} {lo : zL} {ls : Array Slot} {n i : Nat} {a : zA} (h : lv_has ls n ((i, zv ad a) :: (z_lm ad lo).filter (fun q => !(q.1 == i) && (!(q.1 == i + 1) && !(q.1 + 1 == i && q.2.category == 2))))) : lv_has ls n (z_lm ad (z_lset2 lo i a)) := by
  refine ⟨h.1, h.2.1, fun q hq => ?_⟩
  obtain ⟨q0, h0, rfl⟩ := List.mem_map.mp hq
  rcases z_insM h0 with rfl | h1
  · exact h.2.2 _ List.mem_cons_self
  · obtain ⟨g1, g2⟩ := List.mem_filter.mp h1
    refine h.2.2 _ (List.mem_cons_of_mem _ (List.mem_filter.mpr ⟨List.mem_map.mpr ⟨q0, g1, rfl⟩, ?_⟩))
    show (!(q0.1 == i) && (!(q0.1 == i + 1) && !(q0.1 + 1 == i && (zv ad q0.2).category == 2))) = true
    rw [z_catS, q_beqE, q_beqE, q_beqE, q_beqE]
    exact g2
theorem z_keepS {ad : Nat → Nat} {lo : zL} {ls : Array Slot} {n : Nat} (ks : List Nat) (h : lv_has ls n (z_lm ad lo)) : lv_has ls n (z_lm ad (z_keep ks lo)) := by
  refine ⟨h.1, h.2.1, fun q hq => ?_⟩
  obtain ⟨q0, h0, rfl⟩ := List.mem_map.mp hq
  exact h.2.2 _ (List.mem_map.mpr ⟨q0, (List.mem_filter.mp h0).1, rfl⟩)
/-- a cell -/
noncomputable def zC (dC : Nat → ClassId) (dI : Nat → Nat → Nat) (dA : FieldType → ClassId) (ad : Nat → Nat) (m : zM) (H : Heap) (c : Nat) : zK → Prop
  | .inl (ty, n) => H[ad c]? = some (vp_cell (dA ty) (n, .inl (fun j => Int32.ofInt (m c j)))) ∧ (ty = .int ∨ ty = .byte ∨ ty = .boolean ∨ ty = .char)
  | .inr (.inl n) => H[ad c]? = some (vp_cell (dA .long) (n, .inr (.inl (fun j => Int64.ofInt (m c j)))))
  | .inr (.inr (.inl cs)) => ∃ g : Nat → Option Nat, H[ad c]? = some (vp_cell (dA (.array .int)) (cs.length, .inr (.inr (.inr (.inr g))))) ∧ ∀ (j d : Nat), cs[j]? = some d → va_rf (g j) = .ref (ad d)
  | .inr (.inr (.inr ci)) => ∃ q : vw_C, vwCl[ci]? = some q ∧ t_OB (ad c) (dC ci) q.2.2 (dI ci) H (vp_V ((List.range q.2.2).map (fun k => zv ad (z_fv m c k))))
/-- the heap holds the table -/
noncomputable def zH (dC : Nat → ClassId) (dI : Nat → Nat → Nat) (dA : FieldType → ClassId) (Hb : Heap) (ad : Nat → Nat) (m : zM) (H : Heap) : Prop :=
  (∀ q : Nat, q < Hb.size → H[q]? = Hb[q]?) ∧ Hb.size ≤ H.size ∧
  ((ad 0 = dA .short ∧ ad 0 < Hb.size) ∧ ∃ scr : Cell, H[ad 0]? = some scr ∧ scr.vm ≠ .unknown ∧ ((scr.slots.size : Nat) : Int) = m 110 0 ∧ ∀ j : Nat, j < scr.slots.size → scr.slots[j]? = some (.int (Int32.ofInt (m 0 j)))) ∧
  (∀ (c : Nat) (κ : zK), c ≠ 0 → zkd c = some κ → Hb.size ≤ ad c ∧ zC dC dI dA ad m H c κ) ∧
  (∀ c d : Nat, (zkd c).isSome = true → (zkd d).isSome = true → ad c = ad d → c = d)
section ZHeap
variable {dC : Nat → ClassId} {dI : Nat → Nat → Nat} {dA : FieldType → ClassId} {Hb : Heap} {ad : Nat → Nat} {m m1 : zM} {H H1 : Heap}
theorem zC.kept {c : Nat} {κ : zK} (h : zC dC dI dA ad m H c κ) (e : H1[ad c]? = H[ad c]?) (em : m1 c = m c) : zC dC dI dA ad m1 H1 c κ := by
  rcases κ with ⟨ty, n⟩ | n | cs | ci
  · refine ⟨?_, h.2⟩
    rw [e, em]
    exact h.1
  · show H1[ad c]? = _
    rw [e, em]
    exact h
  · obtain ⟨g, g1, g2⟩ := h
    exact ⟨g, by rw [e]; exact g1, g2⟩
  · obtain ⟨q, g1, g2⟩ := h
    refine ⟨q, g1, ?_⟩
    have ef : (fun k => zv ad (z_fv m1 c k)) = (fun k => zv ad (z_fv m c k)) := by
      funext k
      unfold z_fv
      rw [em]
    rw [ef]
    exact g2.kept e
theorem z_k110 : zkd 110 = none := rfl
theorem zH.set {c : Nat} {κ : zK} (h : zH dC dI dA Hb ad m H) (hc : zkd c = some κ) (h0 : c ≠ 0) (hz : H1.size = H.size) (ho : ∀ q : Nat, q ≠ ad c → H1[q]? = H[q]?) (hm : ∀ d, d ≠ c → m1 d = m d) (hn : zC dC dI dA ad m1 H1 c κ) : zH dC dI dA Hb ad m1 H1 := by
  obtain ⟨g1, g2, ⟨g3, scr, s1, s2, s3, s4⟩, g4, g5⟩ := h
  have hb := (g4 c κ h0 hc).1
  have h110 : c ≠ 110 := fun e => by rw [e, z_k110] at hc; cases hc
  refine ⟨fun q hq => (ho q (by omega)).trans (g1 q hq), by omega, ⟨g3, scr, ?_, s2, ?_, ?_⟩, fun d κ2 hd0 hd => ?_, g5⟩
  · rw [ho _ (by omega)]
    exact s1
  · rw [hm 110 (fun e => h110 e.symm)]
    exact s3
  · rw [hm 0 (fun e => h0 e.symm)]
    exact s4
  · by_cases e : d = c
    · subst e
      cases Option.some.inj (hc.symm.trans hd)
      exact ⟨hb, hn⟩
    · obtain ⟨k1, k2⟩ := g4 d κ2 hd0 hd
      exact ⟨k1, k2.kept (ho _ (fun q => e (g5 d c (by rw [hd]; rfl) (by rw [hc]; rfl) q))) (hm d e)⟩
theorem zH.grow (h : zH dC dI dA Hb ad m H) (hz : H.size ≤ H1.size) (hq : ∀ q : Nat, q < H.size → H1[q]? = H[q]?) : zH dC dI dA Hb ad m H1 := by
  obtain ⟨g1, g2, ⟨g3, scr, s1, s2, s3, s4⟩, g4, g5⟩ := h
  refine ⟨fun q hq1 => (hq q (by omega)).trans (g1 q hq1), by omega, ⟨g3, scr, ?_, s2, s3, s4⟩, fun d κ2 hd0 hd => ?_, g5⟩
  · rw [hq _ (by omega)]
    exact s1
  · obtain ⟨k1, k2⟩ := g4 d κ2 hd0 hd
    refine ⟨k1, k2.kept (hq _ ?_) rfl⟩
    rcases κ2 with ⟨ty, n⟩ | n | cs | ci
    · exact (Array.getElem?_eq_some_iff.mp k2.1).1
    · exact (Array.getElem?_eq_some_iff.mp (show H[ad d]? = _ from k2)).1
    · obtain ⟨g, k3, -⟩ := k2
      exact (Array.getElem?_eq_some_iff.mp k3).1
    · obtain ⟨q, -, cell, k3, -⟩ := k2
      exact (Array.getElem?_eq_some_iff.mp k3).1
theorem zu_ne {q i d : Nat} {v : Int} (h : d ≠ q) : zu m q i v d = m d := by
  funext j
  show (bif Nat.beq d q && Nat.beq j i then v else m d j) = m d j
  rw [q_beqF h]
  rfl
theorem zu_at {q i : Nat} {v : Int} (j : Nat) : zu m q i v q j = if j = i then v else m q j := by
  show (bif Nat.beq q q && Nat.beq j i then v else m q j) = _
  rw [Nat.beq_refl]
  by_cases e : j = i
  · subst e
    rw [Nat.beq_refl, if_pos rfl]
    rfl
  · rw [q_beqF e, if_neg e]
    rfl
theorem z_cp_ne {q0 q1 sp dp n d : Nat} (h : d ≠ q1) : z_cp m q0 q1 sp dp n d = m d := by
  funext j
  show (bif Nat.beq d q1 && (Nat.ble dp j && Nat.blt j (dp + n)) then m q0 (sp + (j - dp)) else m d j) = m d j
  rw [q_beqF h]
  rfl
theorem z_cp_at {q0 q1 sp dp n : Nat} (j : Nat) : z_cp m q0 q1 sp dp n q1 j = if dp ≤ j ∧ j < dp + n then m q0 (sp + (j - dp)) else m q1 j := by
  show (bif Nat.beq q1 q1 && (Nat.ble dp j && Nat.blt j (dp + n)) then m q0 (sp + (j - dp)) else m q1 j) = _
  rw [Nat.beq_refl]
  by_cases e : dp ≤ j ∧ j < dp + n
  · rw [if_pos e, Nat.ble_eq_true_of_le e.1, show Nat.blt j (dp + n) = true from Nat.ble_eq_true_of_le e.2]
    rfl
  · rw [if_neg e]
    cases h1 : Nat.ble dp j with
    | false => rfl
    | true =>
      cases h2 : Nat.blt j (dp + n) with
      | false => rfl
      | true => exact absurd ⟨Nat.le_of_ble_eq_true h1, q_blt h2⟩ e
end ZHeap
theorem z_bif {b : Bool} {P : Prop} (h : bif b then P else False) : b = true ∧ P := by
  cases b with
  | true => exact ⟨rfl, h⟩
  | false => exact h.elim
theorem z_setL {α : Type} {N a : Nat} {f g : Nat → α} {v : α} (ha : a < N) (h1 : g a = v) (h2 : ∀ k, k ≠ a → g k = f k) : ((List.range N).map f).set a v = (List.range N).map g := by
  apply List.ext_getElem?
  intro i
  rw [List.getElem?_set, List.getElem?_map, List.getElem?_map]
  by_cases e : a = i
  · subst e
    rw [if_pos rfl, if_pos (by rw [List.length_map, List.length_range]; exact ha), List.getElem?_range ha]
    show some v = some (g a)
    rw [h1]
  · rw [if_neg e]
    by_cases hi : i < N
    · rw [List.getElem?_range hi]
      show some (f i) = some (g i)
      rw [h2 i (fun q => e q.symm)]
    · rw [List.getElem?_eq_none (by rw [List.length_range]; omega)]
      rfl
