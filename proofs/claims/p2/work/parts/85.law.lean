/-! THE CLAIM OUT OF ONE WALK OF THE LAW'S BODY. Your part is whole_start (and what it stands on); all else here is the same for every law, but numbers. -/
def R_law : String := "SkirtsByTheDayLaw"
def lw_P (b : Addr) (xs : List Int32) (args : Array Value) (s : State) : Prop := args = #[.ref b] ∧ s.IntsAt b xs ∧ xs.length ≤ 2560 ∧ (Jvm.Cond.and given_1 narrow_1).before args s = true
def lw_Q (_ : Array Value) (s : State) (o : Outcome) (t : State) : Prop := o = .returned (some (.int 1)) ∧ Framed s o t [] 601024 7293034
def lw_Z (below : List Frame) (a : Array Value) (s : State) : State → Prop := fun t => ∃ o, t.status = .running ∧ Ended t below o ∧ lw_Q a s o t
/-- the law's own end, with 1 on the stack, nothing written that was there before, its room as the claim has it -/
theorem lw_ret {p : Program} {l : Launch} {e : Env} {s : State} {m : MethodId} {below : List Frame} {meth : Method} {c : Code} {b : Nat} (hx : p.tables.exec = Jvm.exec) (hb : c.code = code) (hr : meth.sig.returnType = ret) (hlocks : meth.locks = false) {pc : Nat} {H : Heap} {ls : Array Slot} (hdg : decode code pc = .ok (.ireturn, 1)) : W p l e room_1 s m #[Value.ref b] below meth c H [] 601024 7293034 (lw_Z below #[Value.ref b] s) (F0 m pc ls [.int 1]) := by
  intro T hT X
  obtain ⟨fs, hret, hrun, hended, hW, hframe⟩ := X.leave (v := some (.int 1)) (hlocks := hlocks) (fun h => by rw [hr] at h; cases h)
  have hmeth' : T.vm.method? m = some meth := X.method'
  refine ⟨T.setFrames fs, ?_, .returned (some (.int 1)), hrun, hended, rfl, ⟨_, rfl⟩, hW, hframe⟩
  jvm_step X.here [X.here.top, hx, hb, hdg, hmeth', hr, ret, narrow_b1]
  (try refine ⟨rfl, ?_⟩); (try refine ⟨rfl, ?_⟩)
  first | (intro acts; rw [hret _ acts rfl rfl rfl]) | rw [hret _ _ rfl rfl rfl]
  exact Steps.refl _
/-- what holds at the law's entry: the machine, the code, the tables' words (any of lw_tbl by 'hts w (by decide +kernel)'), the script of L ints xs at the cell b, what the Statement gives of the start (any of its parts by flat_of_before) -/
def lw_At (p : Program) (s : State) (m : MethodId) (meth : Method) (c : Code) (b L : Nat) (xs : Nat → Int32) : Prop :=
  p.tables.exec = Jvm.exec ∧ c.code = code ∧ meth.sig.returnType = ret ∧ c.maxLocals = 7 ∧ s.vm.findClass R_law = some m.cls ∧ (∀ w ∈ lw_tbl, w.before #[Value.ref b] s = true) ∧ va_X b L xs s s.heap ∧ b < s.heap.size ∧ meth.locks = false ∧ (Jvm.Cond.and given_1 narrow_1).before #[Value.ref b] s = true
-- ===== YOUR PART BEGINS =====
section LawRun
theorem q_iretS {k pc : Nat} {lo : sL} {st : List sA} {E : sE} {h : sH} {f : sF} (ht : s_step k pc lo st E h = some (.inr (.inr (0, some (.inl f))))) : ∃ (nx a1 a2 a3 : Nat) (z : Int), ins k pc = some (.ireturn, nx, a1, a2, a3, z) ∧ st = [.inl f] := by
  unfold s_step at ht
  cases hi : ins k pc with
  | none => rw [hi] at ht; cases ht
  | some row =>
    rw [hi] at ht
    obtain ⟨i, nx, a1, a2, a3, z⟩ := row
    cases i <;> dsimp only at ht
    case ireturn =>
      split at ht
      · rename_i v
        unfold s_ret at ht
        split at ht
        · cases ht
          exact ⟨_, _, _, _, _, rfl, rfl⟩
        · obtain ⟨-, ht⟩ := q_bif ht
          cases ht
          exact ⟨_, _, _, _, _, rfl, rfl⟩
        · cases ht
      · cases ht
    case lreturn =>
      split at ht
      · split at ht <;> cases ht
      · cases ht
    case return_ =>
      split at ht
      · split at ht <;> cases ht
      · cases ht
    case new x =>
      cases h99 : Nat.beq a1 99 with
      | true => rw [h99] at ht; cases ht
      | false =>
        rw [h99] at ht
        cases hE9 : E.1 && s_ids h with
        | true => rw [hE9] at ht; cases ht
        | false => rw [hE9] at ht; cases ht
    case invokestatic x =>
      simp only [cond_eq_ite, s_inv, s_copy, s_go] at ht
      repeat' (split at ht <;> try (cases ht; done))
    case invokevirtual x =>
      split at ht
      · simp only [cond_eq_ite] at ht
        split at ht <;> cases ht
      · cases ht
    case invokespecial x =>
      simp only [cond_eq_ite, s_go] at ht
      repeat' (split at ht <;> try (cases ht; done))
    all_goals (try simp only [s_go, s_gox, s_br, s_gets, s_puts, s_op2, s_op2o, s_op1, s_lop2, s_ldv, s_andI, s_rld, s_rst] at ht)
    all_goals (first | (cases ht; done) | skip)
    all_goals (repeat' (split at ht <;> try (cases ht; done)))
    all_goals (first | (cases ht; done) | (simp only [cond_eq_ite] at ht; repeat' (split at ht <;> try (cases ht; done))) | skip)
def t_ad (b z : Nat) : Nat → Nat
  | 0 => b
  | k + 1 => z + k
variable {p : Program} {l : Launch} {e : Env} {s : State} {m : MethodId} {below : List Frame} {meth : Method} {c : Code} {dC : Nat → ClassId} {dI : Nat → Nat → Nat} {dA : FieldType → ClassId} {b : Nat} {ad : Nat → Nat} {rv : List Int}
/-- the law's end with 1 -/
theorem t_finS {H H0 : Heap} {locs : List Loc} {cells slots : Nat} {ls : Array Slot} {vs : List Value} {o : sO} {stp : sG → Bool} (C : q_Ctx p room_1 s m #[Value.ref b] meth c dC dI dA s.heap 302) (hr : meth.sig.returnType = ret) (hlocks : meth.locks = false) (ho : t_fin1 o = true) (ht : q_Term 302 stp o)
    (F : q_Fr dC dI dA rv ad s.heap H0 (mL 302) o.2.2 ls vs H locs) (h1 : cells ≤ 601024) (h2 : slots ≤ 7293034) : W p l e room_1 s m #[Value.ref b] below meth c H locs cells slots (lw_Z below #[Value.ref b] s) (F0 m o.2.2.1 ls vs) := by
  obtain ⟨e0, ret0, pc, lo, st, E1, h3⟩ := o
  unfold t_fin1 at ho
  rw [Bool.and_eq_true] at ho
  have e0' := Nat.eq_of_beq_eq_true ho.1
  dsimp only at e0' ho F ⊢
  subst e0'
  have ho2 := ho.2
  split at ho2
  · rename_i f
    have ef := s_eqF_eq ho2
    rcases ht with ⟨ht, -⟩ | ht
    · cases ht
    · have ht : s_step 302 pc lo st E1 h3 = some (.inr (.inr (0, some (.inl f)))) := ht
      obtain ⟨nx, a1, a2, a3, z, hi, hst⟩ := q_iretS ht
      subst hst
      obtain ⟨hlo, hst, hE, hG, hlc⟩ := F
      obtain ⟨w, vs', rfl, ⟨y, rfl, hy⟩, hnil⟩ := hst
      have e1 : y = 1 := by
        rw [ef, s_numS] at hy
        exact Int32.toInt_inj.mp (Option.some.inj hy).symm
      have e2 : vs' = [] := hnil
      subst e1; subst e2
      obtain ⟨en, hd⟩ := q_dec (n := 1) hi rfl
      refine va_forget (fun q hq => hlc q hq) ?_
      refine W.widen (k := 601024) (n := 7293034) h1 h2 ?_
      exact lw_ret C.1 C.2.1 hr hlocks hd
  · cases ho2
theorem t_tn : ∀ j, j < 60 → t_nth j = true := by
  intro j hj
  match j, hj with
  | 0, _ => exact t_n0
  | 1, _ => exact t_n1
  | 2, _ => exact t_n2
  | 3, _ => exact t_n3
  | 4, _ => exact t_n4
  | 5, _ => exact t_n5
  | 6, _ => exact t_n6
  | 7, _ => exact t_n7
  | 8, _ => exact t_n8
  | 9, _ => exact t_n9
  | 10, _ => exact t_n10
  | 11, _ => exact t_n11
  | 12, _ => exact t_n12
  | 13, _ => exact t_n13
  | 14, _ => exact t_n14
  | 15, _ => exact t_n15
  | 16, _ => exact t_n16
  | 17, _ => exact t_n17
  | 18, _ => exact t_n18
  | 19, _ => exact t_n19
  | 20, _ => exact t_n20
  | 21, _ => exact t_n21
  | 22, _ => exact t_n22
  | 23, _ => exact t_n23
  | 24, _ => exact t_n24
  | 25, _ => exact t_n25
  | 26, _ => exact t_n26
  | 27, _ => exact t_n27
  | 28, _ => exact t_n28
  | 29, _ => exact t_n29
  | 30, _ => exact t_n30
  | 31, _ => exact t_n31
  | 32, _ => exact t_n32
  | 33, _ => exact t_n33
  | 34, _ => exact t_n34
  | 35, _ => exact t_n35
  | 36, _ => exact t_n36
  | 37, _ => exact t_n37
  | 38, _ => exact t_n38
  | 39, _ => exact t_n39
  | 40, _ => exact t_n40
  | 41, _ => exact t_n41
  | 42, _ => exact t_n42
  | 43, _ => exact t_n43
  | 44, _ => exact t_n44
  | 45, _ => exact t_n45
  | 46, _ => exact t_n46
  | 47, _ => exact t_n47
  | 48, _ => exact t_n48
  | 49, _ => exact t_n49
  | 50, _ => exact t_n50
  | 51, _ => exact t_n51
  | 52, _ => exact t_n52
  | 53, _ => exact t_n53
  | 54, _ => exact t_n54
  | 55, _ => exact t_n55
  | 56, _ => exact t_n56
  | 57, _ => exact t_n57
  | 58, _ => exact t_n58
  | 59, _ => exact t_n59
  | j + 60, hj => omega
theorem t_tw : ∀ q ∈ t_l, t_way q = true := by
  intro q hq
  obtain ⟨j, hj⟩ := List.getElem?_of_mem hq
  have h2 := t_c2
  rw [Bool.and_eq_true] at h2
  have hl := Nat.le_of_ble_eq_true h2.2
  have := t_tn j (by have := (List.getElem?_eq_some_iff.mp hj).1; omega)
  unfold t_nth at this
  rw [hj] at this
  exact this
set_option maxHeartbeats 4000000 in
theorem t_loop (hfl : l.stackTraces = false) (C : q_Ctx p room_1 s m #[Value.ref b] meth c dC dI dA s.heap 302) (hr : meth.sig.returnType = ret) (hlocks : meth.locks = false) (hT : ∀ D, ∀ c, ∀ C ∈ tabL c, q_KOK l dC dI dA s.heap ad c C D) {L : Int} {H0 : Heap} :
    ∀ (n : Nat) (y : List Int) (ls : Array Slot) (vs : List Value) (H : Heap) (locs : List Loc) (cells slots t : Nat) (iv : Int), q_Fr dC dI dA ([L] ++ y) ad s.heap H0 (mL 302) t_hd ls vs H locs → ([L] ++ y)[1]? = some iv → 2560 - iv < (n : Int) → 5 * (t : Int) ≤ iv → cells ≤ 1000 + t → slots ≤ 100000 + 6 * t →
      W p l e room_1 s m #[Value.ref b] below meth c H locs cells slots (lw_Z below #[Value.ref b] s) (F0 m t_hd.1 ls vs) := by
  have hX := q_xokL (l := l) (dC := dC) (dI := dI) (dA := dA) (Hb := s.heap) (ad := ad) (tab := tabL) hfl hT 400 t_dp
  have hdp : ∀ r : List Int, s_val r t_dp = some ((400 : Nat) : Int) := fun r => s_numS _
  have hB : t_hd.2.2.2.1.2.1[1]? = some (vP 0, vP 2560) := by decide +kernel
  intro n
  induction n with
  | zero =>
    intro y ls vs H locs cells slots t iv F hiv hm _ _ _
    exfalso
    obtain ⟨v, v1, v2, v3⟩ := F.2.2.1.2.1 1 _ hB
    rw [hiv] at v1
    cases v1
    have v3 : iv ≤ 2560 := v3
    omega
  | succ n ih =>
    intro y ls vs H locs cells slots t iv F hiv hm ht5 hcl hsl
    obtain ⟨v, v1, v2, v3⟩ := F.2.2.1.2.1 1 _ hB
    rw [hiv] at v1
    cases v1
    have v3 : iv ≤ 2560 := v3
    have t512 : t ≤ 512 := by omega
    have hc1 := t_c1
    unfold t_ok1 at hc1
    split at hc1
    · rename_i c0 s0 os hr1
      rw [Bool.and_eq_true, Bool.and_eq_true] at hc1
      have e1 := Nat.eq_of_beq_eq_true hc1.1.1
      have e2 := Nat.eq_of_beq_eq_true hc1.1.2
      subst e1
      subst e2
      have hr1' := hr1
      unfold t_r1 at hr1
      have eos : t_os = os := by unfold t_os; rw [hr1']
      refine q_run C hX (by decide) (by decide) 60 t_hd 0 0 os ([L] ++ y) hr1 (hdp _) ls vs H locs cells slots F (by show cells + 0 ≤ 601024; omega) (by show slots + 0 ≤ 7293034; omega) (fun o ho ht x ls1 vs1 H1 locs1 cells1 slots1 F1 z1 z2 => ?_)
      have hok := List.all_eq_true.mp hc1.2 o ho
      have hg := List.all_eq_true.mp (by have h2 := t_c2; rw [Bool.and_eq_true] at h2; exact h2.1) o (by rw [eos]; exact ho)
      have c1 : cells1 ≤ cells := by omega
      have s1 : slots1 ≤ slots := by omega
      rw [Bool.or_eq_true] at hok
      rcases hok with hok | hok
      · -- the switch
        unfold t_good at hg
        rw [hok] at hg
        simp only [cond_true] at hg
        split at hg
        · rename_i l0 hstep
          have hin : ∀ q ∈ l0, q ∈ t_l := fun q hq => by
            unfold t_l
            rw [List.mem_flatMap]
            refine ⟨o, by rw [eos]; exact ho, ?_⟩
            unfold t_ways
            rw [hok]
            simp only [cond_true]
            rw [hstep]
            exact hq
          have hway : ∀ q ∈ l0, (q.1 = 0 ∧ q.2.1 = 0) ∧ ∃ mc ms os2, s_run (t_X tabL) t_dp 302 (fun f => Nat.beq f.1 23) 400 q.2.2 = some (mc, ms, os2) ∧ mc ≤ 1 ∧ ms ≤ 6 ∧ ∀ o ∈ os2, t_back o = true ∨ t_fin1 o = true := fun q hq => by
            have h3 := t_tw q (hin q hq)
            unfold t_way at h3
            rw [Bool.and_eq_true, Bool.and_eq_true] at h3
            refine ⟨⟨Nat.eq_of_beq_eq_true h3.1.1, Nat.eq_of_beq_eq_true h3.1.2⟩, ?_⟩
            have h4 := h3.2
            split at h4
            · rename_i mc ms os2 hr2
              rw [Bool.and_eq_true, Bool.and_eq_true] at h4
              refine ⟨mc, ms, os2, hr2, Nat.le_of_ble_eq_true h4.1.1, Nat.le_of_ble_eq_true h4.1.2, fun o ho => ?_⟩
              have := List.all_eq_true.mp h4.2 o ho
              rw [Bool.or_eq_true] at this
              exact this
            · cases h4
          obtain ⟨e0, ret0, pc, lo, st, E1, h1⟩ := o
          dsimp only at hstep F1 ⊢
          refine q_next C hstep F1 (fun q hq => ?_) (fun q hq x2 ls2 vs2 H2 locs2 F2 => ?_)
          · obtain ⟨⟨k1, k2⟩, -⟩ := hway q hq
            rw [k1, k2]
            exact ⟨by show cells1 + 0 ≤ 601024; omega, by show slots1 + 0 ≤ 7293034; omega⟩
          · obtain ⟨⟨k1, k2⟩, mc, ms, os2, hr2, m1, m2, hos2⟩ := hway q hq
            rw [k1, k2]
            refine q_run C hX (by decide) (by decide) 400 q.2.2 mc ms os2 _ hr2 (hdp _) ls2 vs2 H2 locs2 (cells1 + 0) (slots1 + 0) F2 (by show cells1 + 0 + mc ≤ 601024; omega) (by show slots1 + 0 + ms ≤ 7293034; omega) (fun o ho ht x3 ls3 vs3 H3 locs3 cells3 slots3 F3 z3 z4 => ?_)
            rcases hos2 o ho with hb | hb
            · unfold t_back at hb
              rw [Bool.and_eq_true] at hb
              have eo2 := Nat.eq_of_beq_eq_true hb.1
              have c3 : cells3 ≤ cells1 + 0 + mc := by rw [eo2] at z3; have z5 : cells3 + 0 ≤ cells1 + 0 + mc := z3; omega
              have s3 : slots3 ≤ slots1 + 0 + ms := by rw [eo2] at z4; have z5 : slots3 + 0 ≤ slots1 + 0 + ms := z4; omega
              have hb2 := hb.2
              split at hb2
              · cases hb2
              · rename_i th hth
                split at hb2
                · rename_i f hf
                  have F3' : q_Fr dC dI dA ([L] ++ (y ++ x ++ x2 ++ x3)) ad s.heap H0 (mL 302) o.2.2 ls3 vs3 H3 locs3 := by
                    rw [← List.append_assoc, ← List.append_assoc, ← List.append_assoc]
                    exact F3
                  obtain ⟨y', k3, k4, k5⟩ := s_toTS (n0 := 1) rfl F3' hth
                  obtain ⟨w, w1, w2⟩ := k3.2 1 f hf
                  have hiv2 : ([L] ++ (y ++ x ++ x2 ++ x3))[1]? = some iv := by
                    rw [show [L] ++ (y ++ x ++ x2 ++ x3) = [L] ++ y ++ (x ++ x2 ++ x3) by simp]
                    rw [List.getElem?_append_left (List.getElem?_eq_some_iff.mp hiv).1]
                    exact hiv
                  have hw : w = iv + 5 := by
                    rw [s_eqF_eq hb2] at w2
                    exact Option.some.inj (w2.symm.trans (s_addS (s_nmS hiv2) (s_numS 5)))
                  rw [← k5]
                  exact ih y' ls3 vs3 H3 locs3 cells3 slots3 (t + 1) w k4 w1 (by omega) (by omega) (by omega) (by omega)
                · cases hb2
            · exact t_finS C hr hlocks hb ht F3 (by omega) (by omega)
        · cases hg
      · exact t_finS C hr hlocks hok ht F1 (by omega) (by omega)
    · cases hc1
end LawRun
/-- YOUR PART: from the entry, for every script of at most 2560 ints, the law comes to its end with true -/
theorem whole_start {p : Program} {e : Env} {s : State} {m : MethodId} {below : List Frame} {meth : Method} {c : Code} (l : Launch) (hflags : l.flags = flags0) {b L : Nat} {xs : Nat → Int32} (hL : L ≤ 2560) (C0 : lw_At p s m meth c b L xs) : W p l e room_1 s m #[Value.ref b] below meth c s.heap [] 0 0 (lw_Z below #[Value.ref b] s) (entryFrame m ([Value.ref b] : List Value).toArray 7) := by
  obtain ⟨hx, hb, hr, hml, hown, hts, hX, hbl, hlocks, hgv⟩ := C0
  obtain ⟨dC, dI, dA, hK, hsh⟩ := t_init hts hgv hX
  have hfl : l.stackTraces = false := by
    unfold Launch.stackTraces
    rw [hflags]
    decide
  have C : q_Ctx p room_1 s m #[Value.ref b] meth c dC dI dA s.heap 302 := ⟨hx, hb, hml, hown, fun w hw => hts w (List.mem_filter.mp hw).1, hK, fun h => absurd h (by decide), by decide, by decide⟩
  have hT : ∀ D, ∀ c, ∀ C ∈ tabL c, q_KOK l dC dI dA s.heap (t_ad b s.heap.size) c C D := q_allL
  have hl := lv_entry [Value.ref b] (n := 7) (Nat.le_of_ble_eq_true rfl)
  rw [lg_entry_eq]
  generalize (lg_sl [Value.ref b] ++ List.replicate (7 - (lg_sl [Value.ref b]).length) Slot.unset).toArray = ls at hl ⊢
  have hl : lv_has ls 7 [(0, .ref b)] := hl
  have hX9 := q_xokL (l := l) (dC := dC) (dI := dI) (dA := dA) (Hb := s.heap) (ad := t_ad b s.heap.size) (tab := tabL) hfl hT 400 t_dp
  obtain ⟨scr, x1, x2, x3, x4, x5⟩ := hX
  have hF0 : q_Fr dC dI dA [(L : Int)] (t_ad b s.heap.size) s.heap s.heap (mL 302) t_f0 ls [] s.heap [] := by
    refine ⟨⟨hl.1, hl.2.1, fun q hq => ?_⟩, rfl, ⟨rfl, fun k i hk => ?_, (fun q hq => nomatch hq), (fun f hf => nomatch hf)⟩, ⟨fun _ _ => rfl, fun _ _ _ => rfl, ⟨Nat.le_refl _, Nat.le_refl _⟩, fun _ j => ?_, fun q hq => ?_, fun a ha c hc _ => ?_, fun e => by cases e⟩, fun q hq => nomatch hq⟩
    · have e1 : q = (0, vr 0) := List.mem_singleton.mp hq
      subst e1
      exact ⟨.ref b, lv_at hl 0 rfl, rfl⟩
    · rcases k with _ | k
      · cases hk
        exact ⟨L, rfl, by show (0 : Int) ≤ L; omega, by show (L : Int) ≤ 2560; omega⟩
      · cases hk
    · show t_ad b s.heap.size (1 + j) = s.heap.size + j
      rw [Nat.add_comm 1 j]
      rfl
    · have e1 := List.mem_singleton.mp hq
      subst e1
      refine ⟨L, xs, Or.inr ⟨⟨rfl, rfl, hsh.symm, hbl⟩, scr, x1, x3, x4, x5⟩, ⟨s_nmS rfl, by decide, fun j hj => ⟨wb (vM 2147483647) (vP 2147483647), ?_, q_low _, q_high _, fun f hf => by cases hf⟩, (fun p hp => nomatch hp), (fun p hp => nomatch hp)⟩, Or.inl rfl, fun hn => by cases hn⟩
      show ([wb (vM 2147483647) (vP 2147483647)])[j % 1]? = some _
      rw [Nat.mod_one]
      rfl
    · rw [List.mem_singleton.mp ha, List.mem_singleton.mp hc]
  have hc0 := t_c0
  unfold t_ok0 at hc0
  split at hc0
  · rename_i c0 s0 e0 r0 S hr0
    rw [Bool.and_eq_true, Bool.and_eq_true, Bool.and_eq_true, Bool.and_eq_true] at hc0
    obtain ⟨⟨⟨⟨k1, k2⟩, k3⟩, k4⟩, k5⟩ := hc0
    have k1 := Nat.le_of_ble_eq_true k1
    have k2 := Nat.le_of_ble_eq_true k2
    have e0' := Nat.eq_of_beq_eq_true k3
    unfold t_r0 at hr0
    refine q_run C hX9 (by decide) (by decide) 200 t_f0 c0 s0 _ [(L : Int)] hr0 (s_numS _) ls [] s.heap [] 0 0 hF0 (by show 0 + c0 ≤ 601024; omega) (by show 0 + s0 ≤ 7293034; omega) (fun o ho ht x ls1 vs1 H1 locs1 cells1 slots1 F1 z1 z2 => ?_)
    have eo := List.mem_singleton.mp ho
    subst eo
    dsimp only at F1 z1 z2 ⊢
    subst e0'
    have c1 : cells1 ≤ 1000 := by have z3 : cells1 + 0 ≤ 0 + c0 := z1; omega
    have s1 : slots1 ≤ 100000 := by have z3 : slots1 + 0 ≤ 0 + s0 := z2; omega
    have F2 := q_opnS k4 F1
    split at k5
    · cases k5
    · rename_i th hth
      have F2' : q_Fr dC dI dA ([(L : Int)] ++ (x ++ [40, 40, 40, 40, 240])) (t_ad b s.heap.size) s.heap s.heap (mL 302) (s_opn S) ls1 vs1 H1 locs1 := by
        rw [← List.append_assoc]
        exact F2
      obtain ⟨y', w1, w2, w3⟩ := s_toTS (n0 := 1) rfl F2' hth
      have epc : (s_opn S).1 = S.1 := by
        obtain ⟨pc, lo, st, E, h⟩ := S
        rfl
      rw [← epc, ← w3]
      have hB : t_hd.2.2.2.1.2.1[1]? = some (vP 0, vP 2560) := by decide +kernel
      obtain ⟨v, v1, v2, v3⟩ := w2.2.2.1.2.1 1 _ hB
      have v2 : 0 ≤ v := v2
      exact t_loop hfl C hr hlocks hT (2561) y' ls1 vs1 H1 locs1 cells1 slots1 0 v w2 v1 (by show 2560 - v < ((2561 : Nat) : Int); omega) (by omega) (by omega) (by omega)
  · cases hc0
-- ===== YOUR PART ENDS =====
set_option maxHeartbeats 4000000 in
theorem lw_walk (l : Launch) (hflags : l.flags = flags0) (b : Addr) (xs : List Int32) : MetFree l x (headSpec (Jvm.Cond.code x code maxLocals ret :: tables_1) room_1) (lw_P b xs) (fun _ _ _ _ _ => True) lw_Q := by
  refine MetFree.of_bodyS (code := code) (maxLocals := maxLocals) (ret := ret) (by decide) ?_ ?_
  · intro args s m h hn
    obtain ⟨meth, c, h1, h2, h3, h4, h5, h6, -, -⟩ := Cond.code_spec hn (atoms_spec (ws := Jvm.Cond.code x code maxLocals ret :: tables_1) h _ List.mem_cons_self)
    exact ⟨meth, c, h1, h2, h3, h4, h5, h6⟩
  · intro p e s m args below meth c s₁ B hml0 hP _
    obtain ⟨rfl, hx, hbd, hgv⟩ := hP
    obtain ⟨scr, harrAt, hlist, hof, hsmall⟩ := hx
    obtain ⟨hcb, hkn, -, -⟩ := State.arrayAt?_spec harrAt
    have hown : s.vm.findClass R_law = some m.cls := findClass_of_methodNamed B.named
    have hts0 : ∀ c ∈ (Jvm.Cond.code x code maxLocals ret :: tables_1), c.before #[Value.ref b] s = true := atoms_spec (ws := Jvm.Cond.code x code maxLocals ret :: tables_1) B.pre
    have hts : ∀ w ∈ lw_tbl, w.before #[Value.ref b] s = true := k2_hts_sels lw_privs (fun w hw => hts0 w (List.mem_cons_of_mem _ hw)) lw_privs_ok
    have hml : c.maxLocals = 7 := B.maxLocals_eq (hts0 _ List.mem_cons_self)
    have X₀ : Stand p l e room_1 s m #[Value.ref b] below meth c s₁ [] 0 0 := Stand.of_body B
    have hh0 : s₁.heap = s.heap := by rw [B.state]; rfl
    have hsz : scr.slots.size = xs.length := by rw [← Array.length_toList, hlist, List.length_map]
    have hval : ∀ j : Nat, j < xs.length → scr.slots[j]? = some (.int (xs.getD j 0)) := fun j hj => by
      rw [← Array.getElem?_toList, hlist]
      simp [hj]
    have hbl : b < s.heap.size := (Array.getElem?_eq_some_iff.mp hcb).1
    have hX : va_X b xs.length (fun j => xs.getD j 0) s s.heap := ⟨scr, hcb, hof, hkn, hsz, hval⟩
    have K : W p l e room_1 s m #[Value.ref b] below meth c s₁.heap [] 0 0 (lw_Z below #[Value.ref b] s) (entryFrame m ([Value.ref b] : List Value).toArray 7) := by
      rw [hh0]
      exact whole_start l hflags hbd ⟨B.exec, B.bytes, B.returns, hml, hown, hts, hX, hbl, B.notSynchronized, hgv⟩
    obtain ⟨t, a1, o, b1, b2, b3⟩ := K s₁ rfl X₀
    exact ⟨t, o, a1, b1, b2, b3⟩
theorem lw_pre_spec {args : Array Value} {s : State} (h : (Jvm.Cond.and given_1 narrow_1).before args s = true) (hr : rest_1_c.before args s = true) : ∃ (b : Addr) (xs : List Int32), lw_P b xs args s := by
  have hs := flat_of_before _ h
  have hq := flat_of_before _ hr
  have hc : (Cond.count 1).before args s = true := hs _ (by decide +kernel)
  have harr : (Cond.arrayOf (.arg 0) .int).before args s = true := hs _ (by decide +kernel)
  have hle : (Cond.le (.length (.arg 0)) (.int 2560)).before args s = true := hs _ (by decide +kernel)
  have hlen : (Cond.isInt (.length (.arg 0))).before args s = true := hq _ (by decide +kernel)
  have hall : (Cond.all (.arg 0) (.isInt (.elem (.arg 0) (.index 0)))).before args s = true := hq _ (by decide +kernel)
  obtain ⟨b, xs, hb, hx⟩ := State.ints_of_pre rfl harr hlen hall
  have hsm : xs.length < 2 ^ 31 := hx.choose_spec.2.2.2
  have hev : (Term.length (.arg 0)).eval args s none [] s = some (.int xs.length.toInt32) := hx.length_eval hb
  have hv := Cond.le_ints hev (show (Term.int 2560).eval args s none [] s = some (.int 2560) from rfl)
  have hd : xs.length.toInt32 ≤ 2560 := by
    simpa [Cond.before, Cond.holds, hv] using hle
  have hN : xs.length ≤ 2560 := (Int32.ofNat_le_ofNat hsm (by decide)).mp (show Int32.ofNat xs.length ≤ Int32.ofNat 2560 from hd)
  exact ⟨b, xs, Cond.one_arg hc (show args[0]? = some (.ref b) from hb), hx, hN, h⟩
theorem lw_comes (l : Launch) (hflags : l.flags = flags0) : Comes l x (Jvm.Cond.code x code maxLocals ret :: tables_1) room_1 (fun tb e args s => Calls_1 tb e args s ∧ rest_1 tb e args s ∧ Pre_1 tb e args s)
    (fun _ _ args s o t => lw_Q args s o t) := by
  intro p e ha hc hk s m args below hf hfit hheap happ hpre
  obtain ⟨b, xs, hP⟩ := lw_pre_spec hpre.2.2 hpre.2.1
  obtain ⟨k, o, h1, h2, h3, hQ⟩ := lw_walk l hflags b xs p e ha hc hk s m args below hf ((Spec.applies_iff_loose hf).mp happ).1 hP trivial
  exact ⟨k, o, h1, h2, h3, hQ⟩
theorem lw_frame {s t : State} {o : Outcome} {args : Array Value} (h : Framed s o t [] 601024 7293034) :
    Framed s o t (fieldLocs frame_1_writes args s ++ arrayLocs frame_1_arrays args s ++ staticLocs frame_1_statics s) 601024 7293034 := h
theorem lw_limb (L : Cond) (hL : ∀ (args : Array Value) (s t : State), L.after args s (.returned (some (.int 1))) t = true) :
    ArmFor flags0 classFile x code maxLocals ret World_1 tables_1 room_1 Calls_1 rest_1 Pre_1
      (fun tb e a s o t => postC L tb e a s o t ∧ Framed s o t (fieldLocs frame_1_writes a s ++ arrayLocs frame_1_arrays a s ++ staticLocs frame_1_statics s) 601024 7293034) := by
  intro l hflags _ _ p e ha hc hk s m args below hf hfit hheap happ hpre
  obtain ⟨k, o, h1, h2, h3, rfl, hF⟩ := lw_comes l hflags p e ha hc hk s m args below hf hfit hheap happ hpre
  exact ⟨k, _, h1, h2, h3, hL args s _, lw_frame hF⟩
theorem i_vc : Claimed_1_1 ∧ Claimed_1_2 := ⟨lw_limb limb_1_1 (fun args s t => by simp [limb_1_1, Cond.after, Cond.holds, Cond.value]), lw_limb limb_1_2 (fun args s t => Cond.after_iff.mpr (by
  first | (rw [show limb_1_2 = Cond.eq .result (.int 1) from rfl, Cond.eq_ints (x := 1) (y := 1) rfl rfl]; simp; done) | (simp [limb_1_2, Cond.value, Term.eval]; done)))⟩
