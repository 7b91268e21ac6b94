/-! A body's run. -/
theorem p_allS {f : pF → Option pZ} : ∀ {l : List (Nat × Nat × pF)} {c s : Nat} {o : List pO}, p_all f l = some (c, s, o) → ∀ q ∈ l, ∃ c1 s1 o1, f q.2.2 = some (c1, s1, o1) ∧ q.1 + c1 ≤ c ∧ q.2.1 + s1 ≤ s ∧ ∀ x ∈ o1, x ∈ o
  | [], _, _, _, _, q, hq => nomatch hq
  | q0 :: l, c, s, o, h, q, hq => by
    unfold p_all at h
    split at h
    · cases h
    · rename_i c1 s1 o1 h1
      split at h
      · cases h
      · rename_i c2 s2 o2 h2
        cases h
        rcases List.mem_cons.mp hq with rfl | hq
        · exact ⟨c1, s1, o1, h1, Nat.le_max_left _ _, Nat.le_max_left _ _, fun x hx => List.mem_append_left _ hx⟩
        · obtain ⟨c3, s3, o3, g1, g2, g3, g4⟩ := p_allS h2 q hq
          exact ⟨c3, s3, o3, g1, Nat.le_trans g2 (Nat.le_max_right _ _), Nat.le_trans g3 (Nat.le_max_right _ _), fun x hx => List.mem_append_right _ (g4 x hx)⟩
theorem p_retsS {f : pF} : ∀ {os : List pO} {l : List (Nat × Nat × pF)}, p_rets f os = some l → ∀ o ∈ os, ∃ x, p_ret f o = some x ∧ x ∈ l
  | [], _, _, o, ho => nomatch ho
  | o0 :: os, l, h, o, ho => by
    unfold p_rets at h
    split at h
    · cases h
    · rename_i x hx
      split at h
      · cases h
      · rename_i xs hxs
        cases h
        rcases List.mem_cons.mp ho with rfl | ho
        · exact ⟨x, hx, List.mem_cons_self⟩
        · obtain ⟨y, g1, g2⟩ := p_retsS hxs o ho
          exact ⟨y, g1, List.mem_cons_of_mem _ g2⟩
theorem p_takeS {r : Nat → Int32} {b base : Nat} : ∀ {n : Nat} {acc st as rs : List pA} {va vs : List Value}, p_take n acc st = some (as, rs) → q_L r b base acc va → q_L r b base st vs → ∃ ws vr, vs = ws ++ vr ∧ q_L r b base as (ws.reverse ++ va) ∧ q_L r b base rs vr ∧ ws.length = n
  | 0, acc, st, as, rs, va, vs, h, ha, hs => by
    cases h
    exact ⟨[], vs, rfl, ha, hs, rfl⟩
  | n + 1, acc, [], as, rs, va, vs, h, ha, hs => by cases h
  | n + 1, acc, a :: st, as, rs, va, vs, h, ha, hs => by
    obtain ⟨v, vs', rfl, hv, hs'⟩ := hs
    obtain ⟨ws, vr, e, g1, g2, g3⟩ := p_takeS (n := n) (acc := a :: acc) (va := v :: va) h ⟨_, _, rfl, hv, ha⟩ hs'
    refine ⟨v :: ws, vr, by rw [e]; rfl, ?_, g2, by rw [List.length_cons, g3]⟩
    rw [List.reverse_cons, List.append_assoc]
    exact g1
/-- a call's place: which instruction, what it takes -/
def q_Site (k pc nx c : Nat) (st as rs : List pA) (h : pH) : Prop := ∃ (x a2 a3 : Nat) (z : Int),
  (ins k pc = some (.invokestatic x, nx, c, a2, a3, z) ∧ p_take a2 [] st = some (as, rs)) ∨
  (ins k pc = some (.invokevirtual x, nx, c, a2, a3, z) ∧ p_take (a2 + 1) [] st = some (as, rs) ∧ p_rcv c as h = true) ∨
  (ins k pc = some (.invokespecial x, nx, c, a2, a3, z) ∧ Nat.beq c 900 = false ∧ p_take (a2 + 1) [] st = some (as, rs) ∧ ∃ q as', as = .inr (.inl (some (q + 1))) :: as')
theorem q_site {L k pc c : Nat} {lo : pL} {st as : List pA} {E : pE} {h : pH} {f : pF} (hs : p_step L k pc lo st E h = some (.inr (.inl (c, as, f)))) : ∃ nx rs, f = (nx, lo, rs, E, h) ∧ p_cats rs ≤ 8 ∧ c < 303 ∧ q_Site k pc nx c st as rs h := by
  unfold p_step at hs
  cases hi : ins k pc with
  | none => rw [hi] at hs; cases hs
  | some row =>
    rw [hi] at hs
    obtain ⟨i, nx, a1, a2, a3, z⟩ := row
    have inv : ∀ {rc : Bool}, p_inv a1 a2 nx rc lo st E h = some (.inr (.inl (c, as, f))) → a1 = c ∧ ∃ rs, f = (nx, lo, rs, E, h) ∧ p_cats rs ≤ 8 ∧ c < 303 ∧ p_take (bif rc then a2 + 1 else a2) [] st = some (as, rs) := by
      intro rc hv
      unfold p_inv at hv
      split at hv
      · rename_i as2 rs ht
        simp only [cond_eq_ite, Bool.and_eq_true] at hv
        split at hv
        · rename_i hh
          cases hv
          exact ⟨rfl, rs, rfl, Nat.le_of_ble_eq_true hh.1, q_blt hh.2, ht⟩
        · cases hv
      · cases hv
    cases i <;> dsimp only at hs
    case invokestatic x =>
      cases h901 : Nat.beq a1 901 with
      | true =>
        rw [h901] at hs
        simp only [cond_true, p_copy, p_go] at hs
        repeat' (split at hs <;> try (cases hs; done))
        all_goals (simp only [cond_eq_ite] at hs; split at hs <;> cases hs)
      | false =>
        rw [h901] at hs
        obtain ⟨rfl, rs, g1, g2, g3, g4⟩ := inv hs
        exact ⟨nx, rs, g1, g2, g3, x, a2, a3, z, Or.inl ⟨hi, g4⟩⟩
    case invokevirtual x =>
      split at hs
      · rename_i c2 as2 f2 hv
        simp only [cond_eq_ite] at hs
        split at hs
        · rename_i hr
          cases hs
          obtain ⟨rfl, rs, g1, g2, g3, g4⟩ := inv hv
          exact ⟨nx, rs, g1, g2, g3, x, a2, a3, z, Or.inr (Or.inl ⟨hi, g4, hr⟩)⟩
        · cases hs
      · cases hs
    case invokespecial x =>
      cases h900 : Nat.beq a1 900 with
      | true =>
        rw [h900] at hs
        simp only [cond_true, p_go] at hs
        repeat' (split at hs <;> try (cases hs; done))
        all_goals (simp only [cond_eq_ite] at hs; split at hs <;> cases hs)
      | false =>
        rw [h900] at hs
        simp only [cond_false] at hs
        split at hs
        · rename_i c2 q as2 f2 hv
          cases hs
          obtain ⟨rfl, rs, g1, g2, g3, g4⟩ := inv hv
          exact ⟨nx, rs, g1, g2, g3, x, a2, a3, z, Or.inr (Or.inr ⟨hi, h900, g4, q, as2, rfl⟩)⟩
        · cases hs
    all_goals (try simp only [p_go, p_br, p_gets, p_puts, p_op2, p_op1, p_dv, p_rld, p_rst] at hs)
    all_goals (first | (cases hs; done) | skip)
    all_goals (repeat' (split at hs <;> try (cases hs; done)))
    all_goals (first | (cases hs; done) | (simp only [cond_eq_ite] at hs; repeat' (split at hs <;> try (cases hs; done))) | skip)
/-- how a body ends: it stands still, or answers or throws -/
def q_Term (L k stop : Nat) (o : pO) : Prop := (o.1 = 2 ∧ o.2.2.1 = stop) ∨ p_step L k o.2.2.1 o.2.2.2.1 o.2.2.2.2.1 o.2.2.2.2.2.1 o.2.2.2.2.2.2 = some (.inr (.inr (o.1, o.2.1)))
/-- what is asked of a call: at any place that calls c so, it comes to one of its ends -/
def q_CallOK (l : Launch) (dC : Nat → ClassId) (dI : Nat → Nat → Nat) (dA : FieldType → ClassId) (r : Nat → Int32) (b base L : Nat) (Hb : Heap) (D c : Nat) (as : List pA) (E : pE) (h : pH) (mc ms : Nat) (os : List pO) : Prop :=
  ∀ (p : Program) (e : Env) (R : Room) (s : State) (m : MethodId) (args : Array Value) (below : List Frame) (meth : Method) (cd : Code) (H : Heap) (locs : List Loc) (cells slots : Nat) (Q : State → Prop) (k pc nx : Nat) (lo : pL) (st rs : List pA) (ls : Array Slot) (vs : List Value),
    q_Ctx p R s m args meth cd dC dI dA r b base L Hb k → q_Site k pc nx c st as rs h → p_cats rs ≤ 8 → q_Fr dC dI dA r b base Hb (mL k) (pc, lo, st, E, h) ls vs H locs → D + 9 ≤ R.frames → 80 * D + 480 ≤ R.locals → cells + mc ≤ R.cells → slots + ms ≤ R.slots →
    (∀ o ∈ os, ∃ f, p_ret (nx, lo, rs, E, h) o = some f) →
    (∀ o ∈ os, ∀ f, p_ret (nx, lo, rs, E, h) o = some f → ∀ (ls : Array Slot) (vs : List Value) (H : Heap) (locs : List Loc), q_Fr dC dI dA r b base Hb (mL k) f.2.2 ls vs H locs → W p l e R s m args below meth cd H locs (cells + mc) (slots + ms) Q (F0 m f.2.2.1 ls vs)) →
    W p l e R s m args below meth cd H locs cells slots Q (F0 m pc ls vs)
section Run
variable {p : Program} {l : Launch} {e : Env} {R : Room} {s : State} {m : MethodId} {args : Array Value} {below : List Frame} {meth : Method} {c : Code} {Q : State → Prop}
variable {dC : Nat → ClassId} {dI : Nat → Nat → Nat} {dA : FieldType → ClassId} {r : Nat → Int32} {b base L : Nat} {Hb : Heap} {k stop D : Nat} {X : Nat → List pA → pE → pH → Option pZ}
theorem q_run (C : q_Ctx p R s m args meth c dC dI dA r b base L Hb k) (hX : ∀ c as E h mc ms os, X c as E h = some (mc, ms, os) → q_CallOK l dC dI dA r b base L Hb D c as E h mc ms os) (hD : D + 9 ≤ R.frames) (hD2 : 80 * D + 480 ≤ R.locals) :
    ∀ (n : Nat) (f : pF) (mc ms : Nat) (os : List pO), p_run L X k stop n f = some (mc, ms, os) → ∀ (ls : Array Slot) (vs : List Value) (H : Heap) (locs : List Loc) (cells slots : Nat), q_Fr dC dI dA r b base Hb (mL k) f ls vs H locs → cells + mc ≤ R.cells → slots + ms ≤ R.slots →
      (∀ o ∈ os, q_Term L k stop o → ∀ (ls : Array Slot) (vs : List Value) (H : Heap) (locs : List Loc) (cells' slots' : Nat), q_Fr dC dI dA r b base Hb (mL k) o.2.2 ls vs H locs → cells' + (bif Nat.beq o.1 1 then 1 else 0) ≤ cells + mc → slots' + (bif Nat.beq o.1 1 then 6 else 0) ≤ slots + ms → W p l e R s m args below meth c H locs cells' slots' Q (F0 m o.2.2.1 ls vs)) →
      W p l e R s m args below meth c H locs cells slots Q (F0 m f.1 ls vs)
  | 0, f, mc, ms, os, h, _, _, _, _, _, _, _, _, _, _ => by cases h
  | n + 1, (pc, lo, st, E, h), mc, ms, os, hr, ls, vs, H, locs, cells, slots, F, hc, hs, hend => by
    unfold p_run at hr
    cases hst : Nat.beq pc stop with
    | true =>
      rw [hst] at hr
      cases hr
      exact hend _ (List.mem_singleton.mpr rfl) (Or.inl ⟨rfl, Nat.eq_of_beq_eq_true hst⟩) ls vs H locs cells slots F (Nat.le_refl _) (Nat.le_refl _)
    | false =>
      rw [hst] at hr
      simp only [cond_false] at hr
      split at hr
      · cases hr
      · rename_i l0 hstep
        have hall := p_allS hr
        refine q_next C hstep F (fun q hq => ?_) (fun q hq ls1 vs1 H1 locs1 F1 => ?_)
        · obtain ⟨c1, s1, o1, g1, g2, g3, g4⟩ := hall q hq
          exact ⟨by omega, by omega⟩
        · obtain ⟨c1, s1, o1, g1, g2, g3, g4⟩ := hall q hq
          exact q_run C hX hD hD2 n q.2.2 c1 s1 o1 g1 ls1 vs1 H1 locs1 (cells + q.1) (slots + q.2.1) F1 (by omega) (by omega) (fun o ho ht ls2 vs2 H2 locs2 cells2 slots2 F2 z1 z2 => hend o (g4 o ho) ht ls2 vs2 H2 locs2 cells2 slots2 F2 (by omega) (by omega))
      · rename_i e2 r2 hstep
        cases hr
        exact hend _ (List.mem_singleton.mpr rfl) (Or.inr hstep) ls vs H locs cells slots F (Nat.le_refl _) (Nat.le_refl _)
      · rename_i c2 as f2 hstep
        split at hr
        · cases hr
        · rename_i mc1 ms1 os1 hx1
          split at hr
          · cases hr
          · rename_i l1 hl1
            split at hr
            · cases hr
            · rename_i c3 s3 o3 h3
              cases hr
              obtain ⟨nx, rs, rfl, hcat, hc3, site⟩ := q_site hstep
              have hall := p_allS h3
              refine hX _ _ _ _ _ _ _ hx1 p e R s m args below meth c H locs cells slots Q k pc nx lo st rs ls vs C site hcat F hD hD2 (by omega) (by omega) (fun o ho => ?_) (fun o ho f hf ls1 vs1 H1 locs1 F1 => ?_)
              · obtain ⟨x, g1, -⟩ := p_retsS hl1 o ho
                exact ⟨x, g1⟩
              · obtain ⟨x, g1, g2⟩ := p_retsS hl1 o ho
                have ex : x = f := Option.some.inj (g1.symm.trans hf)
                subst ex
                obtain ⟨c4, s4, o4, k1, k2, k3, k4⟩ := hall x g2
                exact q_run C hX hD hD2 n x.2.2 c4 s4 o4 k1 ls1 vs1 H1 locs1 (cells + mc1) (slots + ms1) F1 (by omega) (by omega) (fun o ho ht ls2 vs2 H2 locs2 cells2 slots2 F2 z1 z2 => hend o (k4 o ho) ht ls2 vs2 H2 locs2 cells2 slots2 F2 (by omega) (by omega))
end Run
