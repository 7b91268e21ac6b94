/-! THE CLAIM OUT OF ONE WALK OF THE LAW'S BODY. Your part is whole_start (and what it stands on); all else here is the same for every law, but numbers. -/
def R_law : String := "SkirtsByTheDayLaw"
def lw_P (b : Addr) (xs : List Int32) (args : Array Value) (s : State) : Prop := args = #[.ref b] ∧ s.IntsAt b xs ∧ xs.length ≤ 5 ∧ (Jvm.Cond.and given_1 narrow_1).before args s = true
def lw_Q (_ : Array Value) (s : State) (o : Outcome) (t : State) : Prop := o = .returned (some (.int 1)) ∧ Framed s o t [] 600002 7302232
def lw_Z (below : List Frame) (a : Array Value) (s : State) : State → Prop := fun t => ∃ o, t.status = .running ∧ Ended t below o ∧ lw_Q a s o t
/-- the law's own end, with 1 on the stack, nothing written that was there before, its room as the claim has it -/
theorem lw_ret {p : Program} {l : Launch} {e : Env} {s : State} {m : MethodId} {below : List Frame} {meth : Method} {c : Code} {b : Nat} (hx : p.tables.exec = Jvm.exec) (hb : c.code = code) (hr : meth.sig.returnType = ret) (hlocks : meth.locks = false) {pc : Nat} {H : Heap} {ls : Array Slot} (hdg : decode code pc = .ok (.ireturn, 1)) : W p l e room_1 s m #[Value.ref b] below meth c H [] 600002 7302232 (lw_Z below #[Value.ref b] s) (F0 m pc ls [.int 1]) := by
  intro T hT X
  obtain ⟨fs, hret, hrun, hended, hW, hframe⟩ := X.leave (v := some (.int 1)) (hlocks := hlocks) (fun h => by rw [hr] at h; cases h)
  have hmeth' : T.vm.method? m = some meth := X.method'
  refine ⟨T.setFrames fs, ?_, .returned (some (.int 1)), hrun, hended, rfl, ⟨_, rfl⟩, hW, hframe⟩
  jvm_step X.here [X.here.top, hx, hb, hdg, hmeth', hr, ret, narrow_b1]
  (try refine ⟨rfl, ?_⟩); (try refine ⟨rfl, ?_⟩)
  first | (intro acts; rw [hret _ acts rfl rfl rfl]) | rw [hret _ _ rfl rfl rfl]
  exact Steps.refl _
/-- what holds at the law's entry: the machine, the code, the tables' words (any of lw_tbl by 'hts w (by decide +kernel)'), the script of L ints xs at the cell b, what the Statement gives of the start (any of its parts by flat_of_before) -/
def lw_At (p : Program) (s : State) (m : MethodId) (meth : Method) (c : Code) (b L : Nat) (xs : Nat → Int32) : Prop :=
  p.tables.exec = Jvm.exec ∧ c.code = code ∧ meth.sig.returnType = ret ∧ c.maxLocals = 7 ∧ s.vm.findClass R_law = some m.cls ∧ (∀ w ∈ lw_tbl, w.before #[Value.ref b] s = true) ∧ va_X b L xs s s.heap ∧ b < s.heap.size ∧ meth.locks = false ∧ (Jvm.Cond.and given_1 narrow_1).before #[Value.ref b] s = true
-- ===== YOUR PART BEGINS =====
section LawRun
variable {p : Program} {l : Launch} {e : Env} {s : State} {m : MethodId} {below : List Frame} {meth : Method} {c : Code} {dC : Nat → ClassId} {dI : Nat → Nat → Nat} {dA : FieldType → ClassId} {xs : Nat → Int32} {b L : Nat}
/-- the law's end with 1 -/
theorem t_fin {H : Heap} {locs : List Loc} {cells slots stop : Nat} {ls : Array Slot} {vs : List Value} {o : pO} (C : q_Ctx p room_1 s m #[Value.ref b] meth c dC dI dA xs b s.heap.size L s.heap 299) (hr : meth.sig.returnType = ret) (hlocks : meth.locks = false) (ho : t_end o = true) (ht : q_Term L 299 stop o)
    (F : q_Fr dC dI dA xs b s.heap.size s.heap (mL 299) o.2.2 ls vs H locs) (h1 : cells ≤ 600002) (h2 : slots ≤ 7302232) : W p l e room_1 s m #[Value.ref b] below meth c H locs cells slots (lw_Z below #[Value.ref b] s) (F0 m o.2.2.1 ls vs) := by
  obtain ⟨e0, ret0, pc, lo, st, E1, h3⟩ := o
  have hh : e0 = 0 ∧ ret0 = some (.inl (.inl 1)) := by
    unfold t_end at ho
    split at ho
    · rename_i heq
      cases heq
      exact ⟨rfl, rfl⟩
    · cases ho
  obtain ⟨rfl, rfl⟩ := hh
  rcases ht with ⟨ht, -⟩ | ht
  · cases ht
  · obtain ⟨nx, a1, a2, a3, z, hi, hst⟩ := q_iretL ht
    simp only at hst
    subst hst
    obtain ⟨hlo, hst, hE, hG, hlc⟩ := F
    obtain ⟨w, vs', rfl, ⟨y, rfl, hy⟩, hnil⟩ := hst
    have e1 : y = 1 := hy
    have e2 : vs' = [] := hnil
    subst e1; subst e2
    obtain ⟨en, hd⟩ := q_dec (n := 1) C.2.2.2.2.2.2.2.2.2.2 hi rfl
    refine va_forget (fun q hq => hlc q hq) ?_
    refine W.widen (k := 600002) (n := 7302232) h1 h2 ?_
    exact lw_ret C.1 C.2.1 hr hlocks hd
theorem t_gdS {a b0 : Nat} {z : Option pZ} (h : t_gd a b0 z = true) : ∃ mc ms os, z = some (mc, ms, os) ∧ mc ≤ a ∧ ms ≤ b0 ∧ ∀ o ∈ os, t_end o = true := by
  unfold t_gd at h
  split at h
  · rename_i mc ms os
    simp only [Bool.and_eq_true] at h
    exact ⟨mc, ms, os, rfl, Nat.le_of_ble_eq_true h.1.1, Nat.le_of_ble_eq_true h.1.2, List.all_eq_true.mp h.2⟩
  · cases h
/-- a run that comes to good ends -/
theorem t_go {f : pF} {H : Heap} {locs : List Loc} {cells slots a b0 : Nat} {ls : Array Slot} {vs : List Value} (C : q_Ctx p room_1 s m #[Value.ref b] meth c dC dI dA xs b s.heap.size L s.heap 299) (hfl : l.stackTraces = false) (hr : meth.sig.returnType = ret) (hlocks : meth.locks = false)
    (hg : t_gd a b0 (p_run L (t_X L) 299 1000000 t_N f) = true) (F : q_Fr dC dI dA xs b s.heap.size s.heap (mL 299) f ls vs H locs) (h1 : cells + a ≤ 600002) (h2 : slots + b0 ≤ 7302232) : W p l e room_1 s m #[Value.ref b] below meth c H locs cells slots (lw_Z below #[Value.ref b] s) (F0 m f.1 ls vs) := by
  obtain ⟨mc, ms, os, hz, hm1, hm2, hos⟩ := t_gdS hg
  refine q_run (D := 12) (stop := 1000000) C (q_exe (l := l) (n := t_N) hfl C.2.2.2.2.2.2.2.1 rfl 12) (by decide) (by decide) t_N f mc ms os hz ls vs H locs cells slots F (by show cells + mc ≤ 600002; omega) (by show slots + ms ≤ 7302232; omega) (fun o ho ht ls1 vs1 H1 locs1 cells1 slots1 F1 z1 z2 => ?_)
  exact t_fin C hr hlocks (hos o ho) ht F1 (by omega) (by omega)
theorem t_E0 (hE : ∀ k : Nat, -2147483648 ≤ (xs k).toInt ∧ (xs k).toInt ≤ 2147483647) : q_E xs t_E := by
  intro k i hk
  have hi : i = t_I := by
    have hm := List.mem_of_getElem? hk
    simp only [t_E, List.mem_cons, List.not_mem_nil, or_false] at hm
    rcases hm with h | h | h | h | h <;> exact h
  subst hi
  exact hE k
theorem t_E1 {lo hi : Int} (h1 : lo ≤ (xs 1).toInt) (h2 : (xs 1).toInt ≤ hi) : q_E xs (t_ch lo hi) := by
  intro k i hk
  rcases k with _ | _ | _ | _ | _ | k
  · cases hk; exact ⟨q_low _, q_high _⟩
  · cases hk; exact ⟨h1, h2⟩
  · cases hk; exact ⟨q_low _, q_high _⟩
  · cases hk; exact ⟨q_low _, q_high _⟩
  · cases hk; exact ⟨q_low _, q_high _⟩
  · cases hk
end LawRun
theorem t_shapeS {z : Option pZ} (h : t_shape z = true) : ∃ mc ms f, z = some (mc, ms, [(2, none, f)]) ∧ mc ≤ 500000 ∧ ms ≤ 7000000 := by
  unfold t_shape at h
  split at h
  · rename_i mc ms f
    simp only [Bool.and_eq_true] at h
    exact ⟨mc, ms, f, rfl, Nat.le_of_ble_eq_true h.1, Nat.le_of_ble_eq_true h.2⟩
  · cases h
theorem t_stepL : p_step 5 299 t_f1.1 t_f1.2.1 t_f1.2.2.1 t_f1.2.2.2.1 t_f1.2.2.2.2 = some (.inl t_l) := by
  have hl := t_len
  unfold t_l at hl ⊢
  split at hl
  · rename_i l0 h0
    rw [h0]
  · cases hl
theorem t_runS {i a b0 : Nat} {q : Nat × Nat × pF} (hq : t_l[i]? = some q) (h : t_gd a b0 (t_run i) = true) : t_gd a b0 (p_run 5 (t_X 5) 299 1000000 t_N q.2.2) = true := by
  unfold t_run at h
  rw [hq] at h
  exact h
theorem t_runES {i a b0 : Nat} {E : pE} {q : Nat × Nat × pF} (hq : t_l[i]? = some q) (h : t_gd a b0 (t_runE i E) = true) : t_gd a b0 (p_run 5 (t_X 5) 299 1000000 t_N (q.2.2.1, q.2.2.2.1, q.2.2.2.2.1, E, q.2.2.2.2.2.2)) = true := by
  unfold t_runE at h
  rw [hq] at h
  exact h
/-- all the ways from the switch on, by their places -/
theorem t_cases {i : Nat} (hi : i < 53) (h15 : i ≠ 15) (h22 : i ≠ 22) : t_gd 20 200 (t_run i) = true := by
  rcases Nat.lt_or_ge i 26 with h | h
  · rcases Nat.lt_or_ge i 13 with h | h
    · rcases Nat.lt_or_ge i 6 with h | h
      · rcases Nat.lt_or_ge i 3 with h | h
        · rcases Nat.lt_or_ge i 1 with h | h
          · have e : i = 0 := by omega
            subst e
            exact t_c0
          · rcases Nat.lt_or_ge i 2 with h | h
            · have e : i = 1 := by omega
              subst e
              exact t_c1
            · have e : i = 2 := by omega
              subst e
              exact t_c2
        · rcases Nat.lt_or_ge i 4 with h | h
          · have e : i = 3 := by omega
            subst e
            exact t_c3
          · rcases Nat.lt_or_ge i 5 with h | h
            · have e : i = 4 := by omega
              subst e
              exact t_c4
            · have e : i = 5 := by omega
              subst e
              exact t_c5
      · rcases Nat.lt_or_ge i 9 with h | h
        · rcases Nat.lt_or_ge i 7 with h | h
          · have e : i = 6 := by omega
            subst e
            exact t_c6
          · rcases Nat.lt_or_ge i 8 with h | h
            · have e : i = 7 := by omega
              subst e
              exact t_c7
            · have e : i = 8 := by omega
              subst e
              exact t_c8
        · rcases Nat.lt_or_ge i 11 with h | h
          · rcases Nat.lt_or_ge i 10 with h | h
            · have e : i = 9 := by omega
              subst e
              exact t_c9
            · have e : i = 10 := by omega
              subst e
              exact t_c10
          · rcases Nat.lt_or_ge i 12 with h | h
            · have e : i = 11 := by omega
              subst e
              exact t_c11
            · have e : i = 12 := by omega
              subst e
              exact t_c12
    · rcases Nat.lt_or_ge i 19 with h | h
      · rcases Nat.lt_or_ge i 16 with h | h
        · rcases Nat.lt_or_ge i 14 with h | h
          · have e : i = 13 := by omega
            subst e
            exact t_c13
          · rcases Nat.lt_or_ge i 15 with h | h
            · have e : i = 14 := by omega
              subst e
              exact t_c14
            · exact absurd (show i = 15 by omega) h15
        · rcases Nat.lt_or_ge i 17 with h | h
          · have e : i = 16 := by omega
            subst e
            exact t_c16
          · rcases Nat.lt_or_ge i 18 with h | h
            · have e : i = 17 := by omega
              subst e
              exact t_c17
            · have e : i = 18 := by omega
              subst e
              exact t_c18
      · rcases Nat.lt_or_ge i 22 with h | h
        · rcases Nat.lt_or_ge i 20 with h | h
          · have e : i = 19 := by omega
            subst e
            exact t_c19
          · rcases Nat.lt_or_ge i 21 with h | h
            · have e : i = 20 := by omega
              subst e
              exact t_c20
            · have e : i = 21 := by omega
              subst e
              exact t_c21
        · rcases Nat.lt_or_ge i 24 with h | h
          · rcases Nat.lt_or_ge i 23 with h | h
            · exact absurd (show i = 22 by omega) h22
            · have e : i = 23 := by omega
              subst e
              exact t_c23
          · rcases Nat.lt_or_ge i 25 with h | h
            · have e : i = 24 := by omega
              subst e
              exact t_c24
            · have e : i = 25 := by omega
              subst e
              exact t_c25
  · rcases Nat.lt_or_ge i 39 with h | h
    · rcases Nat.lt_or_ge i 32 with h | h
      · rcases Nat.lt_or_ge i 29 with h | h
        · rcases Nat.lt_or_ge i 27 with h | h
          · have e : i = 26 := by omega
            subst e
            exact t_c26
          · rcases Nat.lt_or_ge i 28 with h | h
            · have e : i = 27 := by omega
              subst e
              exact t_c27
            · have e : i = 28 := by omega
              subst e
              exact t_c28
        · rcases Nat.lt_or_ge i 30 with h | h
          · have e : i = 29 := by omega
            subst e
            exact t_c29
          · rcases Nat.lt_or_ge i 31 with h | h
            · have e : i = 30 := by omega
              subst e
              exact t_c30
            · have e : i = 31 := by omega
              subst e
              exact t_c31
      · rcases Nat.lt_or_ge i 35 with h | h
        · rcases Nat.lt_or_ge i 33 with h | h
          · have e : i = 32 := by omega
            subst e
            exact t_c32
          · rcases Nat.lt_or_ge i 34 with h | h
            · have e : i = 33 := by omega
              subst e
              exact t_c33
            · have e : i = 34 := by omega
              subst e
              exact t_c34
        · rcases Nat.lt_or_ge i 37 with h | h
          · rcases Nat.lt_or_ge i 36 with h | h
            · have e : i = 35 := by omega
              subst e
              exact t_c35
            · have e : i = 36 := by omega
              subst e
              exact t_c36
          · rcases Nat.lt_or_ge i 38 with h | h
            · have e : i = 37 := by omega
              subst e
              exact t_c37
            · have e : i = 38 := by omega
              subst e
              exact t_c38
    · rcases Nat.lt_or_ge i 46 with h | h
      · rcases Nat.lt_or_ge i 42 with h | h
        · rcases Nat.lt_or_ge i 40 with h | h
          · have e : i = 39 := by omega
            subst e
            exact t_c39
          · rcases Nat.lt_or_ge i 41 with h | h
            · have e : i = 40 := by omega
              subst e
              exact t_c40
            · have e : i = 41 := by omega
              subst e
              exact t_c41
        · rcases Nat.lt_or_ge i 44 with h | h
          · rcases Nat.lt_or_ge i 43 with h | h
            · have e : i = 42 := by omega
              subst e
              exact t_c42
            · have e : i = 43 := by omega
              subst e
              exact t_c43
          · rcases Nat.lt_or_ge i 45 with h | h
            · have e : i = 44 := by omega
              subst e
              exact t_c44
            · have e : i = 45 := by omega
              subst e
              exact t_c45
      · rcases Nat.lt_or_ge i 49 with h | h
        · rcases Nat.lt_or_ge i 47 with h | h
          · have e : i = 46 := by omega
            subst e
            exact t_c46
          · rcases Nat.lt_or_ge i 48 with h | h
            · have e : i = 47 := by omega
              subst e
              exact t_c47
            · have e : i = 48 := by omega
              subst e
              exact t_c48
        · rcases Nat.lt_or_ge i 51 with h | h
          · rcases Nat.lt_or_ge i 50 with h | h
            · have e : i = 49 := by omega
              subst e
              exact t_c49
            · have e : i = 50 := by omega
              subst e
              exact t_c50
          · rcases Nat.lt_or_ge i 52 with h | h
            · have e : i = 51 := by omega
              subst e
              exact t_c51
            · have e : i = 52 := by omega
              subst e
              exact t_c52
set_option maxRecDepth 100000 in
set_option maxHeartbeats 4000000 in
/-- from the entry, for every script of at most 5 ints, the law comes to its end with true -/
theorem whole_start {p : Program} {e : Env} {s : State} {m : MethodId} {below : List Frame} {meth : Method} {c : Code} (l : Launch) (hflags : l.flags = flags0) {b L : Nat} {xs : Nat → Int32} (hL : L ≤ 5) (C0 : lw_At p s m meth c b L xs) : W p l e room_1 s m #[Value.ref b] below meth c s.heap [] 0 0 (lw_Z below #[Value.ref b] s) (entryFrame m ([Value.ref b] : List Value).toArray 7) := by
  obtain ⟨hx, hb, hr, hml, hown, hts, hX, hbl, hlocks, hgv⟩ := C0
  obtain ⟨dC, dI, dA, hK⟩ := t_init hts hgv hX
  have hfl : l.stackTraces = false := by
    unfold Launch.stackTraces
    rw [hflags]
    decide
  have C : q_Ctx p room_1 s m #[Value.ref b] meth c dC dI dA xs b s.heap.size L s.heap 299 := ⟨hx, hb, hml, hown, fun w hw => hts w (List.mem_filter.mp hw).1, hK, fun h => absurd h (by decide), hbl, by decide, by decide, by decide⟩
  have hl := lv_entry [Value.ref b] (n := 7) (Nat.le_of_ble_eq_true rfl)
  rw [lg_entry_eq]
  generalize (lg_sl [Value.ref b] ++ List.replicate (7 - (lg_sl [Value.ref b]).length) Slot.unset).toArray = ls at hl ⊢
  have hl : lv_has ls 7 [(0, .ref b)] := hl
  have hF0 : q_Fr dC dI dA xs b s.heap.size s.heap (mL 299) t_f0 ls [] s.heap [] := ⟨⟨hl.1, hl.2.1, fun q hq => by
      have e1 : q = (0, .inr (.inl (some 0))) := List.mem_singleton.mp hq
      subst e1
      exact ⟨.ref b, lv_at hl 0 rfl, rfl⟩⟩, rfl, t_E0 (fun k => ⟨q_low _, q_high _⟩), ⟨fun _ _ => rfl, Nat.le_refl _, fun _ => rfl, fun k c h => nomatch h⟩, fun q hq => nomatch hq⟩
  have small : ∀ (hs : t_gd 500000 7000000 (p_run L (t_X L) 299 1000000 t_N t_f0) = true), W p l e room_1 s m #[Value.ref b] below meth c s.heap [] 0 0 (lw_Z below #[Value.ref b] s) (F0 m 0 ls []) := fun hs => t_go C hfl hr hlocks hs hF0 (Nat.le_of_ble_eq_true rfl) (Nat.le_of_ble_eq_true rfl)
  rcases L with _ | _ | _ | _ | _ | _ | L
  · exact small t_s0
  · exact small t_s1
  · exact small t_s2
  · exact small t_s3
  · exact small t_s4
  · obtain ⟨mc, ms, f, hz, hm1, hm2⟩ := t_shapeS t_ok1
    have hf1 : t_f1 = f := by unfold t_f1; rw [hz]
    refine q_run (D := 12) (stop := 39) C (q_exe (l := l) (n := t_N) hfl hbl rfl 12) (by decide) (by decide) t_N t_f0 mc ms _ hz ls [] s.heap [] 0 0 hF0 (by show 0 + mc ≤ 600002; omega) (by show 0 + ms ≤ 7302232; omega) (fun o ho ht ls1 vs1 H1 locs1 cells1 slots1 F1 z1 z2 => ?_)
    have eo := List.mem_singleton.mp ho
    subst eo
    have c1 : cells1 ≤ 500000 := by have z3 : cells1 + 0 ≤ 0 + mc := z1; omega
    have s1 : slots1 ≤ 7000000 := by have z3 : slots1 + 0 ≤ 0 + ms := z2; omega
    have F2 : q_Fr dC dI dA xs b s.heap.size s.heap (mL 299) (t_f1.1, t_f1.2.1, t_f1.2.2.1, t_f1.2.2.2.1, t_f1.2.2.2.2) ls1 vs1 H1 locs1 := by rw [hf1]; exact F1
    show W p l e room_1 s m #[Value.ref b] below meth c H1 locs1 cells1 slots1 (lw_Z below #[Value.ref b] s) (F0 m f.1 ls1 vs1)
    rw [← hf1]
    have hflag : ∀ q ∈ t_l, q.1 = 0 ∧ q.2.1 = 0 ∧ q.2.2.2.2.2.1.1 = true := fun q hq => by
      have h9 := List.all_eq_true.mp t_frA q hq
      simp only [t_flg, Bool.and_eq_true] at h9
      exact ⟨Nat.eq_of_beq_eq_true h9.1.1, Nat.eq_of_beq_eq_true h9.1.2, h9.2⟩
    refine q_next C t_stepL F2 (fun q hq => ?_) (fun q hq ls2 vs2 H2 locs2 F3 => ?_)
    · obtain ⟨k1, k2, -⟩ := hflag q hq
      rw [k1, k2]
      exact ⟨by show cells1 + 0 ≤ 600002; omega, by show slots1 + 0 ≤ 7302232; omega⟩
    · obtain ⟨k1, k2, k3⟩ := hflag q hq
      rw [k1, k2]
      obtain ⟨i, hi⟩ := List.getElem?_of_mem hq
      have hi53 : i < 53 := by
        have := (List.getElem?_eq_some_iff.mp hi).1
        rw [t_len] at this
        exact this
      have hc1 : cells1 + 0 + 20 ≤ 600002 := by omega
      have hs1 : slots1 + 0 + 200 ≤ 7302232 := by omega
      have chunk : ∀ (lo hi9 : Int), lo ≤ (xs 1).toInt → (xs 1).toInt ≤ hi9 → t_gd 20 200 (t_runE i (t_ch lo hi9)) = true → W p l e room_1 s m #[Value.ref b] below meth c H2 locs2 (cells1 + 0) (slots1 + 0) (lw_Z below #[Value.ref b] s) (F0 m q.2.2.1 ls2 vs2) := fun lo hi9 g1 g2 g3 => t_go (f := (q.2.2.1, q.2.2.2.1, q.2.2.2.2.1, t_ch lo hi9, q.2.2.2.2.2.2)) C hfl hr hlocks (t_runES hi g3) ⟨F3.1, F3.2.1, t_E1 g1 g2, F3.2.2.2.1.env (by rw [k3]; rfl), F3.2.2.2.2⟩ hc1 hs1
      by_cases h15 : i = 15
      · subst h15
        rcases t_cover (xs 1).toInt (q_low _) (q_high _) with ⟨g1, g2⟩ | ⟨g1, g2⟩ | ⟨g1, g2⟩ | ⟨g1, g2⟩ | ⟨g1, g2⟩ | ⟨g1, g2⟩ | ⟨g1, g2⟩ | ⟨g1, g2⟩ | ⟨g1, g2⟩ | ⟨g1, g2⟩ | ⟨g1, g2⟩ | ⟨g1, g2⟩ | ⟨g1, g2⟩ | ⟨g1, g2⟩ | ⟨g1, g2⟩ | ⟨g1, g2⟩ | ⟨g1, g2⟩ | ⟨g1, g2⟩
        · exact chunk (-2147483648) (-1) g1 g2 t_w15_0
        · exact chunk (0) (3) g1 g2 t_w15_1
        · exact chunk (4) (7) g1 g2 t_w15_2
        · exact chunk (8) (11) g1 g2 t_w15_3
        · exact chunk (12) (15) g1 g2 t_w15_4
        · exact chunk (16) (19) g1 g2 t_w15_5
        · exact chunk (20) (23) g1 g2 t_w15_6
        · exact chunk (24) (27) g1 g2 t_w15_7
        · exact chunk (28) (31) g1 g2 t_w15_8
        · exact chunk (32) (35) g1 g2 t_w15_9
        · exact chunk (36) (39) g1 g2 t_w15_10
        · exact chunk (40) (43) g1 g2 t_w15_11
        · exact chunk (44) (47) g1 g2 t_w15_12
        · exact chunk (48) (51) g1 g2 t_w15_13
        · exact chunk (52) (55) g1 g2 t_w15_14
        · exact chunk (56) (59) g1 g2 t_w15_15
        · exact chunk (60) (60) g1 g2 t_w15_16
        · exact chunk (61) (2147483647) g1 g2 t_w15_17
      · by_cases h22 : i = 22
        · subst h22
          rcases t_cover (xs 1).toInt (q_low _) (q_high _) with ⟨g1, g2⟩ | ⟨g1, g2⟩ | ⟨g1, g2⟩ | ⟨g1, g2⟩ | ⟨g1, g2⟩ | ⟨g1, g2⟩ | ⟨g1, g2⟩ | ⟨g1, g2⟩ | ⟨g1, g2⟩ | ⟨g1, g2⟩ | ⟨g1, g2⟩ | ⟨g1, g2⟩ | ⟨g1, g2⟩ | ⟨g1, g2⟩ | ⟨g1, g2⟩ | ⟨g1, g2⟩ | ⟨g1, g2⟩ | ⟨g1, g2⟩
          · exact chunk (-2147483648) (-1) g1 g2 t_w22_0
          · exact chunk (0) (3) g1 g2 t_w22_1
          · exact chunk (4) (7) g1 g2 t_w22_2
          · exact chunk (8) (11) g1 g2 t_w22_3
          · exact chunk (12) (15) g1 g2 t_w22_4
          · exact chunk (16) (19) g1 g2 t_w22_5
          · exact chunk (20) (23) g1 g2 t_w22_6
          · exact chunk (24) (27) g1 g2 t_w22_7
          · exact chunk (28) (31) g1 g2 t_w22_8
          · exact chunk (32) (35) g1 g2 t_w22_9
          · exact chunk (36) (39) g1 g2 t_w22_10
          · exact chunk (40) (43) g1 g2 t_w22_11
          · exact chunk (44) (47) g1 g2 t_w22_12
          · exact chunk (48) (51) g1 g2 t_w22_13
          · exact chunk (52) (55) g1 g2 t_w22_14
          · exact chunk (56) (59) g1 g2 t_w22_15
          · exact chunk (60) (60) g1 g2 t_w22_16
          · exact chunk (61) (2147483647) g1 g2 t_w22_17
        · exact t_go C hfl hr hlocks (t_runS hi (t_cases hi53 h15 h22)) F3 hc1 hs1
  · omega
-- ===== YOUR PART ENDS =====
set_option maxHeartbeats 4000000 in
theorem lw_walk (l : Launch) (hflags : l.flags = flags0) (b : Addr) (xs : List Int32) : MetFree l x (headSpec (Jvm.Cond.code x code maxLocals ret :: tables_1) room_1) (lw_P b xs) (fun _ _ _ _ _ => True) lw_Q := by
  refine MetFree.of_bodyS (code := code) (maxLocals := maxLocals) (ret := ret) (by decide) ?_ ?_
  · intro args s m h hn
    obtain ⟨meth, c, h1, h2, h3, h4, h5, h6, -, -⟩ := Cond.code_spec hn (atoms_spec (ws := Jvm.Cond.code x code maxLocals ret :: tables_1) h _ List.mem_cons_self)
    exact ⟨meth, c, h1, h2, h3, h4, h5, h6⟩
  · intro p e s m args below meth c s₁ B hml0 hP _
    obtain ⟨rfl, hx, hbd, hgv⟩ := hP
    obtain ⟨scr, harrAt, hlist, hof, hsmall⟩ := hx
    obtain ⟨hcb, hkn, -, -⟩ := State.arrayAt?_spec harrAt
    have hown : s.vm.findClass R_law = some m.cls := findClass_of_methodNamed B.named
    have hts0 : ∀ c ∈ (Jvm.Cond.code x code maxLocals ret :: tables_1), c.before #[Value.ref b] s = true := atoms_spec (ws := Jvm.Cond.code x code maxLocals ret :: tables_1) B.pre
    have hts : ∀ w ∈ lw_tbl, w.before #[Value.ref b] s = true := k2_hts_sels lw_privs (fun w hw => hts0 w (List.mem_cons_of_mem _ hw)) lw_privs_ok
    have hml : c.maxLocals = 7 := B.maxLocals_eq (hts0 _ List.mem_cons_self)
    have X₀ : Stand p l e room_1 s m #[Value.ref b] below meth c s₁ [] 0 0 := Stand.of_body B
    have hh0 : s₁.heap = s.heap := by rw [B.state]; rfl
    have hsz : scr.slots.size = xs.length := by rw [← Array.length_toList, hlist, List.length_map]
    have hval : ∀ j : Nat, j < xs.length → scr.slots[j]? = some (.int (xs.getD j 0)) := fun j hj => by
      rw [← Array.getElem?_toList, hlist]
      simp [hj]
    have hbl : b < s.heap.size := (Array.getElem?_eq_some_iff.mp hcb).1
    have hX : va_X b xs.length (fun j => xs.getD j 0) s s.heap := ⟨scr, hcb, hof, hkn, hsz, hval⟩
    have K : W p l e room_1 s m #[Value.ref b] below meth c s₁.heap [] 0 0 (lw_Z below #[Value.ref b] s) (entryFrame m ([Value.ref b] : List Value).toArray 7) := by
      rw [hh0]
      exact whole_start l hflags hbd ⟨B.exec, B.bytes, B.returns, hml, hown, hts, hX, hbl, B.notSynchronized, hgv⟩
    obtain ⟨t, a1, o, b1, b2, b3⟩ := K s₁ rfl X₀
    exact ⟨t, o, a1, b1, b2, b3⟩
theorem lw_pre_spec {args : Array Value} {s : State} (h : (Jvm.Cond.and given_1 narrow_1).before args s = true) (hr : rest_1_c.before args s = true) : ∃ (b : Addr) (xs : List Int32), lw_P b xs args s := by
  have hs := flat_of_before _ h
  have hq := flat_of_before _ hr
  have hc : (Cond.count 1).before args s = true := hs _ (by decide +kernel)
  have harr : (Cond.arrayOf (.arg 0) .int).before args s = true := hs _ (by decide +kernel)
  have hle : (Cond.le (.length (.arg 0)) (.int 5)).before args s = true := hs _ (by decide +kernel)
  have hlen : (Cond.isInt (.length (.arg 0))).before args s = true := hq _ (by decide +kernel)
  have hall : (Cond.all (.arg 0) (.isInt (.elem (.arg 0) (.index 0)))).before args s = true := hq _ (by decide +kernel)
  obtain ⟨b, xs, hb, hx⟩ := State.ints_of_pre rfl harr hlen hall
  have hsm : xs.length < 2 ^ 31 := hx.choose_spec.2.2.2
  have hev : (Term.length (.arg 0)).eval args s none [] s = some (.int xs.length.toInt32) := hx.length_eval hb
  have hv := Cond.le_ints hev (show (Term.int 5).eval args s none [] s = some (.int 5) from rfl)
  have hd : xs.length.toInt32 ≤ 5 := by
    simpa [Cond.before, Cond.holds, hv] using hle
  have hN : xs.length ≤ 5 := (Int32.ofNat_le_ofNat hsm (by decide)).mp (show Int32.ofNat xs.length ≤ Int32.ofNat 5 from hd)
  exact ⟨b, xs, Cond.one_arg hc (show args[0]? = some (.ref b) from hb), hx, hN, h⟩
theorem lw_comes (l : Launch) (hflags : l.flags = flags0) : Comes l x (Jvm.Cond.code x code maxLocals ret :: tables_1) room_1 (fun tb e args s => Calls_1 tb e args s ∧ rest_1 tb e args s ∧ Pre_1 tb e args s)
    (fun _ _ args s o t => lw_Q args s o t) := by
  intro p e ha hc hk s m args below hf hfit hheap happ hpre
  obtain ⟨b, xs, hP⟩ := lw_pre_spec hpre.2.2 hpre.2.1
  obtain ⟨k, o, h1, h2, h3, hQ⟩ := lw_walk l hflags b xs p e ha hc hk s m args below hf ((Spec.applies_iff_loose hf).mp happ).1 hP trivial
  exact ⟨k, o, h1, h2, h3, hQ⟩
theorem lw_frame {s t : State} {o : Outcome} {args : Array Value} (h : Framed s o t [] 600002 7302232) :
    Framed s o t (fieldLocs frame_1_writes args s ++ arrayLocs frame_1_arrays args s ++ staticLocs frame_1_statics s) 600002 7302232 := h
theorem lw_limb (L : Cond) (hL : ∀ (args : Array Value) (s t : State), L.after args s (.returned (some (.int 1))) t = true) :
    ArmFor flags0 classFile x code maxLocals ret World_1 tables_1 room_1 Calls_1 rest_1 Pre_1
      (fun tb e a s o t => postC L tb e a s o t ∧ Framed s o t (fieldLocs frame_1_writes a s ++ arrayLocs frame_1_arrays a s ++ staticLocs frame_1_statics s) 600002 7302232) := by
  intro l hflags _ _ p e ha hc hk s m args below hf hfit hheap happ hpre
  obtain ⟨k, o, h1, h2, h3, rfl, hF⟩ := lw_comes l hflags p e ha hc hk s m args below hf hfit hheap happ hpre
  exact ⟨k, _, h1, h2, h3, hL args s _, lw_frame hF⟩
theorem i_vc : Claimed_1_1 ∧ Claimed_1_2 := ⟨lw_limb limb_1_1 (fun args s t => by simp [limb_1_1, Cond.after, Cond.holds, Cond.value]), lw_limb limb_1_2 (fun args s t => Cond.after_iff.mpr (by
  first | (rw [show limb_1_2 = Cond.eq .result (.int 1) from rfl, Cond.eq_ints (x := 1) (y := 1) rfl rfl]; simp; done) | (simp [limb_1_2, Cond.value, Term.eval]; done)))⟩
