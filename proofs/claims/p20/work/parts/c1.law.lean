/-! THE CLAIM OUT OF ONE WALK OF THE LAW'S BODY. Your part is whole_start (and what it stands on); all else here is the same for every law, but numbers. -/
def R_law : String := "SkirtsByTheDayLaw"
def lw_P (b : Addr) (xs : List Int32) (args : Array Value) (s : State) : Prop := args = #[.ref b] ∧ s.IntsAt b xs ∧ xs.length ≤ 2560 ∧ (Jvm.Cond.and given_1 narrow_1).before args s = true
def lw_Q (_ : Array Value) (s : State) (o : Outcome) (t : State) : Prop := o = .returned (some (.int 1)) ∧ Framed s o t [] 601024 7293034
def lw_Z (below : List Frame) (a : Array Value) (s : State) : State → Prop := fun t => ∃ o, t.status = .running ∧ Ended t below o ∧ lw_Q a s o t
/-- the law's own end, with 1 on the stack, nothing written that was there before, its room as the claim has it -/
theorem lw_ret {p : Program} {l : Launch} {e : Env} {s : State} {m : MethodId} {below : List Frame} {meth : Method} {c : Code} {b : Nat} (hx : p.tables.exec = Jvm.exec) (hb : c.code = code) (hr : meth.sig.returnType = ret) (hlocks : meth.locks = false) {pc : Nat} {H : Heap} {ls : Array Slot} (hdg : decode code pc = .ok (.ireturn, 1)) : W p l e room_1 s m #[Value.ref b] below meth c H [] 601024 7293034 (lw_Z below #[Value.ref b] s) (F0 m pc ls [.int 1]) := by
  intro T hT X
  obtain ⟨fs, hret, hrun, hended, hW, hframe⟩ := X.leave (v := some (.int 1)) (hlocks := hlocks) (fun h => by rw [hr] at h; cases h)
  have hmeth' : T.vm.method? m = some meth := X.method'
  refine ⟨T.setFrames fs, ?_, .returned (some (.int 1)), hrun, hended, rfl, ⟨_, rfl⟩, hW, hframe⟩
  jvm_step X.here [X.here.top, hx, hb, hdg, hmeth', hr, ret, narrow_b1]
  (try refine ⟨rfl, ?_⟩); (try refine ⟨rfl, ?_⟩)
  first | (intro acts; rw [hret _ acts rfl rfl rfl]) | rw [hret _ _ rfl rfl rfl]
  exact Steps.refl _
/-- what holds at the law's entry: the machine, the code, the tables' words (any of lw_tbl by 'hts w (by decide +kernel)'), the script of L ints xs at the cell b, what the Statement gives of the start (any of its parts by flat_of_before) -/
def lw_At (p : Program) (s : State) (m : MethodId) (meth : Method) (c : Code) (b L : Nat) (xs : Nat → Int32) : Prop :=
  p.tables.exec = Jvm.exec ∧ c.code = code ∧ meth.sig.returnType = ret ∧ c.maxLocals = 7 ∧ s.vm.findClass R_law = some m.cls ∧ (∀ w ∈ lw_tbl, w.before #[Value.ref b] s = true) ∧ va_X b L xs s s.heap ∧ b < s.heap.size ∧ meth.locks = false ∧ (Jvm.Cond.and given_1 narrow_1).before #[Value.ref b] s = true
-- ===== YOUR PART BEGINS =====
set_option maxHeartbeats 4000000 in
/-- YOUR PART: from the entry, for every script of at most 2560 ints, the law comes to its end with true -/
theorem whole_start {p : Program} {e : Env} {s : State} {m : MethodId} {below : List Frame} {meth : Method} {c : Code} (l : Launch) (hflags : l.flags = flags0) {b L : Nat} {xs : Nat → Int32} (hL : L ≤ 2560) (C0 : lw_At p s m meth c b L xs) : W p l e room_1 s m #[Value.ref b] below meth c s.heap [] 0 0 (lw_Z below #[Value.ref b] s) (entryFrame m ([Value.ref b] : List Value).toArray 7) := by
  obtain ⟨hx, hb, hr, hml, hown, hts, hX, hbl, hlocks, hgv⟩ := C0
  obtain ⟨dC, dI, dA, hK, hsh⟩ := t_init hts hgv hX
  have hfl : l.stackTraces = false := by
    unfold Launch.stackTraces
    rw [hflags]
    decide
  have C : q_Ctx p room_1 s m #[Value.ref b] meth c dC dI dA s.heap 303 := ⟨hx, hb, hml, hown, fun w hw => hts w (List.mem_filter.mp hw).1, hK, fun h => absurd h (by decide), by decide, by decide⟩
  have hl := lv_entry [Value.ref b] (n := 7) (Nat.le_of_ble_eq_true rfl)
  rw [lg_entry_eq]
  generalize (lg_sl [Value.ref b] ++ List.replicate (7 - (lg_sl [Value.ref b]).length) Slot.unset).toArray = ls at hl ⊢
  have hl : lv_has ls 7 [(0, .ref b)] := hl
  have hX9 := q_xok (l := l) (dC := dC) (dI := dI) (dA := dA) (Hb := s.heap) (ad := t_ad b s.heap.size) (tab := fun _ => []) 8 400 t_dp (fun D _ c C hC => nomatch hC)
  obtain ⟨scr, x1, x2, x3, x4, x5⟩ := hX
  have hF0 : q_Fr dC dI dA [(L : Int)] (t_ad b s.heap.size) s.heap s.heap (mL 303) t_f0 ls [] s.heap [] := by
    refine ⟨⟨hl.1, hl.2.1, fun q hq => ?_⟩, rfl, ⟨rfl, fun k i hk => ?_, (fun q hq => nomatch hq), (fun f hf => nomatch hf)⟩, ⟨fun _ _ => rfl, fun _ _ _ => rfl, ⟨Nat.le_refl _, Nat.le_refl _⟩, fun _ j => ?_, fun q hq => ?_, fun a ha c hc _ => ?_, fun e => by cases e⟩, fun q hq => nomatch hq⟩
    · have e1 : q = (0, .inr (.inl (some 0))) := List.mem_singleton.mp hq
      subst e1
      exact ⟨.ref b, lv_at hl 0 rfl, rfl⟩
    · rcases k with _ | k
      · cases hk
        exact ⟨L, rfl, by show (0 : Int) ≤ L; omega, by show (L : Int) ≤ 2560; omega⟩
      · cases hk
    · show t_ad b s.heap.size (1 + j) = s.heap.size + j
      rw [Nat.add_comm 1 j]
      rfl
    · have e1 := List.mem_singleton.mp hq
      subst e1
      refine ⟨L, xs, Or.inr ⟨⟨rfl, rfl, hsh.symm, hbl⟩, scr, x1, x3, x4, x5⟩, ⟨s_nmS rfl, by decide, fun j hj => ⟨.inr ((-2147483648, 2147483647), none), ?_, q_low _, q_high _, fun f hf => by cases hf⟩, (fun p hp => nomatch hp), (fun p hp => nomatch hp)⟩, Or.inl rfl, fun hn => by cases hn⟩
      show ([(.inr ((-2147483648, 2147483647), none) : sW)])[j % 1]? = some _
      rw [Nat.mod_one]
      rfl
    · rw [List.mem_singleton.mp ha, List.mem_singleton.mp hc]
  have hc0 := t_c0
  unfold t_chk at hc0
  split at hc0
  · rename_i c0 s0 e0 r0 S hr0
    rw [Bool.and_eq_true, Bool.and_eq_true, Bool.and_eq_true, Bool.and_eq_true, Bool.and_eq_true, Bool.and_eq_true] at hc0
    obtain ⟨k1, k2, k3, k4, k5, k6, k7⟩ := hc0
    have k1 := Nat.le_of_ble_eq_true k1
    have k2 := Nat.le_of_ble_eq_true k2
    have e0' := Nat.eq_of_beq_eq_true k3
    have e23 := Nat.eq_of_beq_eq_true k4
    unfold t_r0 at hr0
    refine q_run C hX9 (by decide) (by decide) 200 t_f0 c0 s0 _ [(L : Int)] hr0 (s_numS _) ls [] s.heap [] 0 0 hF0 (by show 0 + c0 ≤ 601024; omega) (by show 0 + s0 ≤ 7293034; omega) (fun o ho ht x ls1 vs1 H1 locs1 cells1 slots1 F1 z1 z2 => ?_)
    have eo := List.mem_singleton.mp ho
    subst eo
    dsimp only at F1 z1 z2 ⊢
    subst e0'
    have c1 : cells1 ≤ 1000 := by have z3 : cells1 + 0 ≤ 0 + c0 := z1; omega
    have s1 : slots1 ≤ 100000 := by have z3 : slots1 + 0 ≤ 0 + s0 := z2; omega
    obtain ⟨G, F2⟩ := zF_start hsh hbl ⟨scr, x1, x3, x4, x5⟩ k5 k6 k7 F1
    have hR := zLRulesS (b := 0) (x := (l, dC, dI, dA, s.heap, t_ad b s.heap.size)) (e := e) (below := below) (Q := lw_Z below #[Value.ref b] s) (L := L) (xs := xs) C hfl (by decide) (by decide) (by decide) (by decide) ⟨scr, x1, x4, x5⟩ (fun pc lo st mm hr9 cells slots hcl hsl => by
      rintro ls9 vs9 H9 locs9 ⟨hlo9, rfl, hH9, hlc9⟩
      obtain ⟨nx, a1, a2, a3, z, hr9⟩ := hr9
      rcases hr9 with ⟨hi, v, rfl, e9, -⟩ | ⟨hi, v, rfl, e9, -⟩ | ⟨hi, rfl, e9, -⟩
      · obtain ⟨en, hd⟩ := q_dec (n := 1) hi rfl
        have ev : (1 : Int) = wr v := Sum.inl.inj (Option.some.inj e9)
        have ew : Int32.ofInt v = 1 := z_eq32 (by rw [wrE, ← ev]; rfl)
        refine va_forget (fun q hq => hlc9 q hq) ?_
        refine W.widen (k := 601024) (n := 7293034) (by omega) (by omega) ?_
        show W p l e room_1 s m #[Value.ref b] below meth c H9 [] 601024 7293034 (lw_Z below #[Value.ref b] s) (F0 m pc ls9 [Value.int (Int32.ofInt v)])
        rw [ew]
        exact lw_ret C.1 C.2.1 hr hlocks hd
      · cases e9
      · cases e9)
    have key := zloop (sc := (fun j => (xs j).toInt, (L : Int))) (zRulesS2 (l, dC, dI, dA, s.heap, t_ad b s.heap.size)) hR (by omega) (by omega) (L + 1) 0 0 (zm0 (L : Int) (fun j => (xs j).toInt) G) (by omega) (by omega) (by omega) ⟨0, 0, zm0_inv⟩
    rw [e23]
    exact key (by omega) cells1 slots1 (by omega) (by omega) ls1 vs1 H1 locs1 F2
  · cases hc0
-- ===== YOUR PART ENDS =====
set_option maxHeartbeats 4000000 in
theorem lw_walk (l : Launch) (hflags : l.flags = flags0) (b : Addr) (xs : List Int32) : MetFree l x (headSpec (Jvm.Cond.code x code maxLocals ret :: tables_1) room_1) (lw_P b xs) (fun _ _ _ _ _ => True) lw_Q := by
  refine MetFree.of_bodyS (code := code) (maxLocals := maxLocals) (ret := ret) (by decide) ?_ ?_
  · intro args s m h hn
    obtain ⟨meth, c, h1, h2, h3, h4, h5, h6, -, -⟩ := Cond.code_spec hn (atoms_spec (ws := Jvm.Cond.code x code maxLocals ret :: tables_1) h _ List.mem_cons_self)
    exact ⟨meth, c, h1, h2, h3, h4, h5, h6⟩
  · intro p e s m args below meth c s₁ B hml0 hP _
    obtain ⟨rfl, hx, hbd, hgv⟩ := hP
    obtain ⟨scr, harrAt, hlist, hof, hsmall⟩ := hx
    obtain ⟨hcb, hkn, -, -⟩ := State.arrayAt?_spec harrAt
    have hown : s.vm.findClass R_law = some m.cls := findClass_of_methodNamed B.named
    have hts0 : ∀ c ∈ (Jvm.Cond.code x code maxLocals ret :: tables_1), c.before #[Value.ref b] s = true := atoms_spec (ws := Jvm.Cond.code x code maxLocals ret :: tables_1) B.pre
    have hts : ∀ w ∈ lw_tbl, w.before #[Value.ref b] s = true := k2_hts_sels lw_privs (fun w hw => hts0 w (List.mem_cons_of_mem _ hw)) lw_privs_ok
    have hml : c.maxLocals = 7 := B.maxLocals_eq (hts0 _ List.mem_cons_self)
    have X₀ : Stand p l e room_1 s m #[Value.ref b] below meth c s₁ [] 0 0 := Stand.of_body B
    have hh0 : s₁.heap = s.heap := by rw [B.state]; rfl
    have hsz : scr.slots.size = xs.length := by rw [← Array.length_toList, hlist, List.length_map]
    have hval : ∀ j : Nat, j < xs.length → scr.slots[j]? = some (.int (xs.getD j 0)) := fun j hj => by
      rw [← Array.getElem?_toList, hlist]
      simp [hj]
    have hbl : b < s.heap.size := (Array.getElem?_eq_some_iff.mp hcb).1
    have hX : va_X b xs.length (fun j => xs.getD j 0) s s.heap := ⟨scr, hcb, hof, hkn, hsz, hval⟩
    have K : W p l e room_1 s m #[Value.ref b] below meth c s₁.heap [] 0 0 (lw_Z below #[Value.ref b] s) (entryFrame m ([Value.ref b] : List Value).toArray 7) := by
      rw [hh0]
      exact whole_start l hflags hbd ⟨B.exec, B.bytes, B.returns, hml, hown, hts, hX, hbl, B.notSynchronized, hgv⟩
    obtain ⟨t, a1, o, b1, b2, b3⟩ := K s₁ rfl X₀
    exact ⟨t, o, a1, b1, b2, b3⟩
theorem lw_pre_spec {args : Array Value} {s : State} (h : (Jvm.Cond.and given_1 narrow_1).before args s = true) (hr : rest_1_c.before args s = true) : ∃ (b : Addr) (xs : List Int32), lw_P b xs args s := by
  have hs := flat_of_before _ h
  have hq := flat_of_before _ hr
  have hc : (Cond.count 1).before args s = true := hs _ (by decide +kernel)
  have harr : (Cond.arrayOf (.arg 0) .int).before args s = true := hs _ (by decide +kernel)
  have hle : (Cond.le (.length (.arg 0)) (.int 2560)).before args s = true := hs _ (by decide +kernel)
  have hlen : (Cond.isInt (.length (.arg 0))).before args s = true := hq _ (by decide +kernel)
  have hall : (Cond.all (.arg 0) (.isInt (.elem (.arg 0) (.index 0)))).before args s = true := hq _ (by decide +kernel)
  obtain ⟨b, xs, hb, hx⟩ := State.ints_of_pre rfl harr hlen hall
  have hsm : xs.length < 2 ^ 31 := hx.choose_spec.2.2.2
  have hev : (Term.length (.arg 0)).eval args s none [] s = some (.int xs.length.toInt32) := hx.length_eval hb
  have hv := Cond.le_ints hev (show (Term.int 2560).eval args s none [] s = some (.int 2560) from rfl)
  have hd : xs.length.toInt32 ≤ 2560 := by
    simpa [Cond.before, Cond.holds, hv] using hle
  have hN : xs.length ≤ 2560 := (Int32.ofNat_le_ofNat hsm (by decide)).mp (show Int32.ofNat xs.length ≤ Int32.ofNat 2560 from hd)
  exact ⟨b, xs, Cond.one_arg hc (show args[0]? = some (.ref b) from hb), hx, hN, h⟩
theorem lw_comes (l : Launch) (hflags : l.flags = flags0) : Comes l x (Jvm.Cond.code x code maxLocals ret :: tables_1) room_1 (fun tb e args s => Calls_1 tb e args s ∧ rest_1 tb e args s ∧ Pre_1 tb e args s)
    (fun _ _ args s o t => lw_Q args s o t) := by
  intro p e ha hc hk s m args below hf hfit hheap happ hpre
  obtain ⟨b, xs, hP⟩ := lw_pre_spec hpre.2.2 hpre.2.1
  obtain ⟨k, o, h1, h2, h3, hQ⟩ := lw_walk l hflags b xs p e ha hc hk s m args below hf ((Spec.applies_iff_loose hf).mp happ).1 hP trivial
  exact ⟨k, o, h1, h2, h3, hQ⟩
theorem lw_frame {s t : State} {o : Outcome} {args : Array Value} (h : Framed s o t [] 601024 7293034) :
    Framed s o t (fieldLocs frame_1_writes args s ++ arrayLocs frame_1_arrays args s ++ staticLocs frame_1_statics s) 601024 7293034 := h
theorem lw_limb (L : Cond) (hL : ∀ (args : Array Value) (s t : State), L.after args s (.returned (some (.int 1))) t = true) :
    ArmFor flags0 classFile x code maxLocals ret World_1 tables_1 room_1 Calls_1 rest_1 Pre_1
      (fun tb e a s o t => postC L tb e a s o t ∧ Framed s o t (fieldLocs frame_1_writes a s ++ arrayLocs frame_1_arrays a s ++ staticLocs frame_1_statics s) 601024 7293034) := by
  intro l hflags _ _ p e ha hc hk s m args below hf hfit hheap happ hpre
  obtain ⟨k, o, h1, h2, h3, rfl, hF⟩ := lw_comes l hflags p e ha hc hk s m args below hf hfit hheap happ hpre
  exact ⟨k, _, h1, h2, h3, hL args s _, lw_frame hF⟩
theorem i_vc : Claimed_1_1 ∧ Claimed_1_2 := ⟨lw_limb limb_1_1 (fun args s t => by simp [limb_1_1, Cond.after, Cond.holds, Cond.value]), lw_limb limb_1_2 (fun args s t => Cond.after_iff.mpr (by
  first | (rw [show limb_1_2 = Cond.eq .result (.int 1) from rfl, Cond.eq_ints (x := 1) (y := 1) rfl rfl]; simp; done) | (simp [limb_1_2, Cond.value, Term.eval]; done)))⟩
