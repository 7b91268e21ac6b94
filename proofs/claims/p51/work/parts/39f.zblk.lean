/-! Blocks, calls; what is used of all this behind here: zRules. -/
/-- a call's place -/
noncomputable def z_Site (k pc nx c : Nat) (st as rs : List zA) : Prop := ∃ (x a2 a3 : Nat) (z : Int),
  (ins k pc = some (.invokestatic x, nx, c, a2, a3, z) ∧ z_take a2 [] st = some (as, rs)) ∨
  (ins k pc = some (.invokevirtual x, nx, c, a2, a3, z) ∧ z_take (a2 + 1) [] st = some (as, rs) ∧ ∃ q as', as = .inr (.inl (some q)) :: as' ∧ Nat.beq (z_ci q) (mcl c) = true)
/-- an answer's place -/
noncomputable def z_Ret (k pc : Nat) (st : List zA) (r : Option zA) : Prop := ∃ (nx a1 a2 a3 : Nat) (z : Int),
  (ins k pc = some (.ireturn, nx, a1, a2, a3, z) ∧ ∃ v : Int, st = [.inl v] ∧ r = some (.inl (wr v)) ∧ (mR k = some .int ∨ (mR k = some .boolean ∧ 0 ≤ wr v ∧ wr v ≤ 1))) ∨
  (ins k pc = some (.lreturn, nx, a1, a2, a3, z) ∧ ∃ v : Int, st = [.inr (.inr v)] ∧ r = some (.inr (.inr v)) ∧ mR k = some .long) ∨
  (ins k pc = some (.return_, nx, a1, a2, a3, z) ∧ st = [] ∧ r = none ∧ mR k = none)
section ZBlk
variable {p : Program} {l : Launch} {e : Env} {R : Room} {s : State} {m : MethodId} {args : Array Value} {below : List Frame} {meth : Method} {c : Code} {cells slots : Nat} {Q : State → Prop}
variable {dC : Nat → ClassId} {dI : Nat → Nat → Nat} {dA : FieldType → ClassId} {ad : Nat → Nat} {Hb : Heap} {k : Nat} {G : zG → Prop} {Cc : Nat → List zA → zG → Prop} {Rr : Option zA → zM → Prop} {Tt : zM → Prop}
set_option maxHeartbeats 4000000 in
theorem z_oneS (C : q_Ctx p R s m args meth c dC dI dA Hb k) (kk : ∀ g, G g → zW p l e R s m args below meth c cells slots Q dC dI dA Hb ad k g)
    (kc : ∀ (c0 : Nat) (as : List zA) (nx : Nat) (rs : List zA) (lo : zL) (st : List zA) (pc : Nat) (mm : zM), z_Site k pc nx c0 st as rs → z_cats rs ≤ 8 → c0 < 303 → Cc c0 as (nx, lo, rs, mm) → zW p l e R s m args below meth c cells slots Q dC dI dA Hb ad k (pc, lo, st, mm))
    (kr : ∀ (r : Option zA) (pc : Nat) (lo : zL) (st : List zA) (mm : zM), z_Ret k pc st r → Rr r mm → zW p l e R s m args below meth c cells slots Q dC dI dA Hb ad k (pc, lo, st, mm))
    (kt : ∀ (pc : Nat) (lo : zL) (st : List zA) (mm : zM), q_n99 k pc = true → pc < mN k → z_cats st ≤ 8 → Tt mm → zW p l e R s m args below meth c cells slots Q dC dI dA Hb ad k (pc, lo, st, mm))
    {pc : Nat} {lo : zL} {st : List zA} {mm : zM} (h : z_one k G Cc Rr Tt pc lo st mm) : zW p l e R s m args below meth c cells slots Q dC dI dA Hb ad k (pc, lo, st, mm) := by
  unfold z_one at h
  cases hi : ins k pc with
  | none => rw [hi] at h; exact h.elim
  | some row =>
    rw [hi] at h
    obtain ⟨i, nx, a1, a2, a3, z⟩ := row
    cases i <;> dsimp only at h
    case iconst cz => exact zs_iconst C hi h kk
    case bipush cz => exact zs_bipush C hi h kk
    case sipush cz => exact zs_sipush C hi h kk
    case ldc ci => exact zs_ldc C hi h kk
    case ldc_w ci => exact zs_ldcw C hi h kk
    case ldc2_w ci => exact zs_ldc2 C hi h kk
    case lconst cf => exact zs_lconst C hi h kk
    case iload_n ci => exact zs_iload_n C hi h kk
    case iload ci => exact zs_iload C hi h kk
    case aload_n ci => exact zs_aload_n C hi h kk
    case aload ci => exact zs_aload C hi h kk
    case lload_n ci => exact zs_lload_n C hi h kk
    case lload ci => exact zs_lload C hi h kk
    case istore_n ci => exact zs_istore_n C hi h kk
    case istore ci => exact zs_istore C hi h kk
    case astore_n ci => exact zs_astore_n C hi h kk
    case astore ci => exact zs_astore C hi h kk
    case lstore_n ci => exact zs_lstore_n C hi h kk
    case lstore ci => exact zs_lstore C hi h kk
    case iinc ci cz => exact zs_iinc C hi h kk
    case iadd => exact zs_iadd C hi h kk
    case isub => exact zs_isub C hi h kk
    case imul => exact zs_imul C hi h kk
    case iand => exact zs_iand C hi h kk
    case ior => exact zs_ior C hi h kk
    case ixor => exact zs_ixor C hi h kk
    case ishl => exact zs_ishl C hi h kk
    case ishr => exact zs_ishr C hi h kk
    case iushr => exact zs_iushr C hi h kk
    case idiv => exact zs_idiv C hi h kk
    case irem => exact zs_irem C hi h kk
    case ineg => exact zs_ineg C hi h kk
    case i2b => exact zs_i2b C hi h kk
    case i2s => exact zs_i2s C hi h kk
    case i2c => exact zs_i2c C hi h kk
    case i2l => exact zs_i2l C hi h kk
    case l2i => exact zs_l2i C hi h kk
    case ladd => exact zs_ladd C hi h kk
    case lmul => exact zs_lmul C hi h kk
    case ldiv => exact zs_ldiv C hi h kk
    case lrem => exact zs_lrem C hi h kk
    case lcmp => exact zs_lcmp C hi h kk
    case ifCond cc cz => exact zs_ifc C hi h kk
    case if_icmp cc cz => exact zs_icmp C hi h kk
    case goto cz => exact zs_goto C hi h kk
    case tableswitch d low high os => exact zs_tsw C hi h kk
    case lookupswitch d ps => exact zs_lsw C hi h kk
    case dup => exact zs_dup C hi h kk
    case pop => exact zs_pop C hi h kk
    case dup_x1 => exact zs_dup_x1 C hi h kk
    case dup2 => exact zs_dup2 C hi h kk
    case getfield ci => exact zs_getf C hi h kk
    case putfield ci => exact zs_putf C hi h kk
    case iaload => exact zs_rld (kind := 0) C hi h kk
    case baload => exact zs_rld (kind := 1) C hi h kk
    case caload => exact zs_rld (kind := 2) C hi h kk
    case iastore => exact zs_rst (kind := 0) C hi h kk
    case bastore => exact zs_rst (kind := 1) C hi h kk
    case castore => exact zs_rst (kind := 2) C hi h kk
    case laload => exact zs_lald C hi h kk
    case lastore => exact zs_last C hi h kk
    case aaload => exact zs_aald C hi h kk
    case arraylength => exact zs_alen C hi h kk
    case invokestatic x =>
      cases h901 : Nat.beq a1 901 with
      | true =>
        rw [h901] at h
        have hc := (q_rowI hi).2.2.1
        simp only [c_I, h901, cond_true] at hc
        exact zs_copy (wAt_mem hc) C hi h kk
      | false =>
        rw [h901] at h
        simp only [cond_false, z_inv] at h
        split at h
        · rename_i as rs ht
          obtain ⟨hb, h⟩ := z_bif h
          rw [Bool.and_eq_true] at hb
          exact kc a1 as nx rs lo st pc mm ⟨x, a2, a3, z, Or.inl ⟨hi, ht⟩⟩ (Nat.le_of_ble_eq_true hb.1) (q_blt hb.2) h
        · exact h.elim
    case invokevirtual x =>
      simp only [z_inv] at h
      split at h
      · rename_i as rs ht
        replace h := z_bif h
        obtain ⟨hb, h⟩ := h
        rw [Bool.and_eq_true] at hb
        unfold z_rcv at h
        split at h
        · rename_i q as2
          replace h := z_bif h
          obtain ⟨hq, h⟩ := h
          exact kc a1 _ nx rs lo st pc mm ⟨x, a2, a3, z, Or.inr ⟨hi, ht, q, as2, rfl, hq⟩⟩ (Nat.le_of_ble_eq_true hb.1) (q_blt hb.2) h
        · exact h.elim
      · exact h.elim
    case ireturn =>
      split at h
      · rename_i v
        unfold z_ret at h
        split at h
        · rename_i hR
          exact kr _ pc lo _ mm ⟨nx, a1, a2, a3, z, Or.inl ⟨hi, v, rfl, rfl, Or.inl hR⟩⟩ h
        · rename_i hR
          exact kr _ pc lo _ mm ⟨nx, a1, a2, a3, z, Or.inl ⟨hi, v, rfl, rfl, Or.inr ⟨hR, h.1⟩⟩⟩ h.2
        · exact h.elim
      · exact h.elim
    case lreturn =>
      split at h
      · rename_i v
        split at h
        · rename_i hR
          exact kr _ pc lo _ mm ⟨nx, a1, a2, a3, z, Or.inr (Or.inl ⟨hi, v, rfl, rfl, hR⟩)⟩ h
        · exact h.elim
      · exact h.elim
    case return_ =>
      split at h
      · split at h
        · rename_i hR
          exact kr _ pc lo _ mm ⟨nx, a1, a2, a3, z, Or.inr (Or.inr ⟨hi, rfl, rfl, hR⟩)⟩ h
        · exact h.elim
      · exact h.elim
    case new x =>
      obtain ⟨hb, h⟩ := z_bif h
      rw [Bool.and_eq_true] at hb
      exact kt pc lo st mm (by simp only [q_n99, hi, hb.1, Bool.and_self]) (q_ins hi).2 (Nat.le_of_ble_eq_true hb.2) h
    all_goals exact h.elim
theorem z_stopS : ∀ {stp : List (Nat × List Nat)} {g g2 : zG}, z_stop stp g = some g2 → ∃ ks, g2 = (g.1, z_keep ks g.2.1, g.2.2.1, g.2.2.2)
  | [], g, g2, h => by cases h
  | x :: r, g, g2, h => by
    unfold z_stop at h
    cases hb : Nat.beq x.1 g.1 with
    | true =>
      rw [hb] at h
      cases h
      exact ⟨x.2, rfl⟩
    | false =>
      rw [hb] at h
      exact z_stopS h
theorem z_blkS {stp : List (Nat × List Nat)} (C : q_Ctx p R s m args meth c dC dI dA Hb k) (kk : ∀ g, G g → zW p l e R s m args below meth c cells slots Q dC dI dA Hb ad k g)
    (kc : ∀ (c0 : Nat) (as : List zA) (nx : Nat) (rs : List zA) (lo : zL) (st : List zA) (pc : Nat) (mm : zM), z_Site k pc nx c0 st as rs → z_cats rs ≤ 8 → c0 < 303 → Cc c0 as (nx, lo, rs, mm) → zW p l e R s m args below meth c cells slots Q dC dI dA Hb ad k (pc, lo, st, mm))
    (kr : ∀ (r : Option zA) (pc : Nat) (lo : zL) (st : List zA) (mm : zM), z_Ret k pc st r → Rr r mm → zW p l e R s m args below meth c cells slots Q dC dI dA Hb ad k (pc, lo, st, mm))
    (kt : ∀ (pc : Nat) (lo : zL) (st : List zA) (mm : zM), q_n99 k pc = true → pc < mN k → z_cats st ≤ 8 → Tt mm → zW p l e R s m args below meth c cells slots Q dC dI dA Hb ad k (pc, lo, st, mm)) :
    ∀ (n : Nat) (g : zG), z_blk stp k G Cc Rr Tt n g → zW p l e R s m args below meth c cells slots Q dC dI dA Hb ad k g
  | 0, g, h => kk g h
  | n + 1, (pc, lo, st, mm), h => by
    refine z_oneS (G := fun g1 => match z_stop stp g1 with
      | some g2 => G g2
      | none => z_blk stp k G Cc Rr Tt n g1) C (fun g1 h1 => ?_) kc kr kt h
    cases hs : z_stop stp g1 with
    | some g2 =>
      have h1 : G g2 := by
        have h2 := h1
        rw [hs] at h2
        exact h2
      obtain ⟨ks, rfl⟩ := z_stopS hs
      intro ls vs H locs F
      exact kk _ h1 ls vs H locs ⟨z_keepS ks F.1, F.2⟩
    | none =>
      have h1 : z_blk stp k G Cc Rr Tt n g1 := by
        have h2 := h1
        rw [hs] at h2
        exact h2
      exact z_blkS C kk kc kr kt n g1 h1
end ZBlk
noncomputable def z_args : Nat → List zA → zL
  | _, [] => []
  | i, a :: as => (i, a) :: z_args (i + z_cat a) as
noncomputable abbrev zX : Type := Launch × (Nat → ClassId) × (Nat → Nat → Nat) × (FieldType → ClassId) × Heap × (Nat → Nat)
noncomputable def zQ (x : zX) (κ : Option zA → zM → Prop) : Array Value → State → Outcome → State → Prop := fun _ _ o t => ∃ (r : Option zA) (m1 : zM), o = .returned (r.map (zv x.2.2.2.2.2)) ∧ κ r m1 ∧ zH x.2.1 x.2.2.1 x.2.2.2.1 x.2.2.2.2.1 x.2.2.2.2.2 m1 t.heap
/-- from g, in a body of k, at most D deep, it comes to an answer and a table of which κ holds -/
noncomputable def zT (x : zX) (D k : Nat) (g : zG) (κ : Option zA → zM → Prop) : Prop := ∀ (p : Program) (e : Env) (s : State) (m : MethodId) (args : Array Value) (below : List Frame) (meth : Method) (c : Code), q_Ctx p (q_rm D 0 0) s m args meth c x.2.1 x.2.2.1 x.2.2.2.1 x.2.2.2.2.1 k → meth.sig.returnType = mR k → meth.locks = false →
  zW p x.1 e (q_rm D 0 0) s m args below meth c 0 0 (MQ below (zQ x κ) args s 0 0 (fun q => x.2.2.2.2.1.size ≤ q)) x.2.1 x.2.2.1 x.2.2.2.1 x.2.2.2.2.1 x.2.2.2.2.2 k g
theorem z_argsL {ad : Nat → Nat} : ∀ {as : List zA} (i : Nat), ∀ q ∈ z_lm ad (z_args i as), q ∈ lv_args i (as.map (zv ad))
  | [], _, q, hq => nomatch hq
  | a :: as, i, q, hq => by
    unfold z_args at hq
    show q ∈ lv_args i (zv ad a :: as.map (zv ad))
    unfold lv_args
    rcases List.mem_cons.mp hq with rfl | hq
    · exact List.mem_cons_self
    · have g1 := z_argsL (i + z_cat a) q hq
      rw [← z_catS ad] at g1
      have e : (if (zv ad a).category = 2 then i + 2 else i + 1) = i + (zv ad a).category := by
        rcases lv_cat (zv ad a) with h1 | h1 <;> rw [h1] <;> simp
      rw [e]
      exact List.mem_cons_of_mem _ g1
theorem z_met {x : zX} {κ : Option zA → zM → Prop} {D c : Nat} {as : List zA} {mm : zM} {H0 : Heap} (hk : c < 302) (hp : c_plain c = true) (hcat : z_cats as ≤ mL c) (hH : zH x.2.1 x.2.2.1 x.2.2.2.1 x.2.2.2.2.1 x.2.2.2.2.2 mm H0) (hT : zT x D c (0, z_args 0 as, [], mm) κ) :
    Met x.1 (mY c) (q_ws c) (q_rm D 0 0) (q_Pc x.2.1 x.2.2.1 x.2.2.2.1 x.2.2.2.2.1 H0 (as.map (zv x.2.2.2.2.2))) (zQ x κ) 0 0 (fun q => x.2.2.2.2.1.size ≤ q) := by
  obtain ⟨w1, w2, w3, w4, w5, w6, w7⟩ := q_MW (q_meth hk hp)
  refine va_MetF (cc := mC c) (maxL := mL c) (ret := mR c) w3 rfl ?_
  intro p e s m args below meth cd s₁ B hml hv
  obtain ⟨rfl, hK, hHH⟩ := hv
  have hts0 := atoms_spec (ws := q_ws c) B.pre
  have hts : ∀ w ∈ tb, w.before (as.map (zv x.2.2.2.2.2)).toArray s = true := fun w hw => hts0 w (List.mem_cons_of_mem _ hw)
  have hown : s.vm.findClass (mY c).cls = some m.cls := findClass_of_methodNamed B.named
  have hlocks := B.notSynchronized
  have hnm : meth.name = (mY c).name := (name_of_methodNamed B.named B.method).1
  have hret := B.returns
  have C : q_Ctx p (q_rm D 0 0) s m (as.map (zv x.2.2.2.2.2)).toArray meth cd x.2.1 x.2.2.1 x.2.2.2.1 x.2.2.2.2.1 c := ⟨B.exec, B.bytes, hml, hown, hts, hK, fun q => hnm.trans q, by show 8 ≤ D + 8; omega, by show 400 ≤ 80 * D + 400; omega⟩
  have hl := lv_entry (as.map (zv x.2.2.2.2.2)) (n := mL c) (by rw [q_slN, z_catsS]; exact hcat)
  rw [lg_entry_eq, hHH]
  generalize (lg_sl (as.map (zv x.2.2.2.2.2)) ++ List.replicate (mL c - (lg_sl (as.map (zv x.2.2.2.2.2))).length) Slot.unset).toArray = ls at hl ⊢
  exact hT p e s m _ below meth cd C hret hlocks ls [] H0 [] ⟨⟨hl.1, hl.2.1, fun q hq => hl.2.2 q (z_argsL 0 q hq)⟩, rfl, hH, fun q hq => nomatch hq⟩
theorem z_takeS : ∀ {n : Nat} {acc st as rs : List zA}, z_take n acc st = some (as, rs) → ∃ ws, st = ws ++ rs ∧ as = ws.reverse ++ acc ∧ ws.length = n
  | 0, acc, st, as, rs, h => by
    cases h
    exact ⟨[], rfl, rfl, rfl⟩
  | n + 1, acc, [], as, rs, h => by cases h
  | n + 1, acc, a :: st, as, rs, h => by
    obtain ⟨ws, e1, e2, e3⟩ := z_takeS (n := n) (acc := a :: acc) (st := st) h
    refine ⟨a :: ws, by rw [e1]; rfl, ?_, by rw [List.length_cons, e3]⟩
    rw [e2, List.reverse_cons, List.append_assoc]
    rfl
section ZCall
variable {p : Program} {e : Env} {R : Room} {s : State} {m : MethodId} {args : Array Value} {below : List Frame} {meth : Method} {cd : Code} {cells slots : Nat} {Q : State → Prop} {x : zX} {k c D pc nx : Nat} {lo : zL} {st as rs : List zA} {mm : zM} {κ : Option zA → zM → Prop}
theorem z_callS (C : q_Ctx p R s m args meth cd x.2.1 x.2.2.1 x.2.2.2.1 x.2.2.2.2.1 k) (site : z_Site k pc nx c st as rs) (hcat : z_cats rs ≤ 8) (hk : c < 302) (hp : c_plain c = true) (hca : z_cats as ≤ mL c) (hD : D + 1 + 8 ≤ R.frames) (hD2 : 80 * (D + 1) + 400 ≤ R.locals) (hcl : cells ≤ R.cells) (hsl : slots ≤ R.slots)
    (hT : zT x D c (0, z_args 0 as, [], mm) κ) (kk : ∀ r m1, κ r m1 → zW p x.1 e R s m args below meth cd cells slots Q x.2.1 x.2.2.1 x.2.2.2.1 x.2.2.2.2.1 x.2.2.2.2.2 k (nx, lo, r.toList ++ rs, m1)) : zW p x.1 e R s m args below meth cd cells slots Q x.2.1 x.2.2.1 x.2.2.2.1 x.2.2.2.2.1 x.2.2.2.2.2 k (pc, lo, st, mm) := by
  obtain ⟨l, dC, dI, dA, Hb, ad⟩ := x
  dsimp only at C hT kk ⊢
  rintro ls vs H locs ⟨hlo, rfl, hH, hlc⟩
  show W p l e R s m args below meth cd H locs cells slots Q (F0 m pc ls (st.map (zv ad)))
  obtain ⟨hx, hb, hml, hown, hts, hK, hnm, hRf, hRl⟩ := C
  obtain ⟨w1, w2, w3, w4, w5, w6, w7⟩ := q_MW (q_meth hk hp)
  have hlo1 : ls.size = mL k := hlo.1
  have key0 : ∀ y : Nat, y ≤ 40 → 8 + (y + 11) + (80 * D + 400) ≤ R.locals := q_key0 (by omega)
  have hroom : (q_rm D 0 0).frames + 1 ≤ R.frames ∧ 8 + (mL c + 11) + (q_rm D 0 0).locals ≤ R.locals := ⟨by rw [show (q_rm D 0 0).frames = D + 8 from rfl]; omega, key0 _ w7⟩
  have blind : ∀ vv, FrameBlind (q_Pc dC dI dA Hb H vv) := fun vv a U g mk q => ⟨q.1, q.2.1.calling, q.2.2⟩
  have pre : ∀ vv : List Value, ∀ U : State, U.heap = H → s.WarmedH U.vm → q_Pc dC dI dA Hb H vv vv.toArray U := fun vv U hU hW => ⟨rfl, hK.moved hW, hU⟩
  have hM := z_met (x := (l, dC, dI, dA, Hb, ad)) hk hp hca hH hT
  dsimp only at hM
  have fin : nx = pc + 3 → ∀ (a : Array Value) (v : Option Value) (st2 t : State) (locs1 : List Loc), zQ (l, dC, dI, dA, Hb, ad) κ a st2 (.returned v) t → (∀ q ∈ locs1, Hb.size ≤ q.base) → W p l e R s m args below meth cd t.heap locs1 (cells + 0) (slots + 0) Q (F0 m (pc + 3) ls (v.toList ++ rs.map (zv ad))) := by
    intro hnx a v st2 t locs1 hq hl1
    obtain ⟨r, m1, hr, hκ, hh⟩ := hq
    cases hr
    subst hnx
    refine kk r m1 hκ ls _ t.heap locs1 ⟨hlo, ?_, hh, hl1⟩
    show (r.map (zv ad)).toList ++ rs.map (zv ad) = (r.toList ++ rs).map (zv ad)
    rw [List.map_append]
    cases r <;> rfl
  obtain ⟨xi, a2, a3, z, site⟩ := site
  rcases site with ⟨hi, ht⟩ | ⟨hi, ht, q, as', rfl, hq⟩
  · obtain ⟨en, hd⟩ := q_dec (n := 3) hi rfl
    have hc := (q_rowI hi).2.2.1
    simp only [c_I, q_beqF (show c ≠ 901 by omega), cond_false, nMth, q_bleF (show c < 303 by omega), Bool.false_or, Bool.and_eq_true] at hc
    have ea2 := Nat.eq_of_beq_eq_true hc.2
    obtain ⟨ws, rfl, rfl, g3⟩ := z_takeS ht
    refine q_callW (va_runS (As := (ws.reverse ++ []).map (zv ad)) (rest := rs.map (zv ad)) ⟨hx, hb, hml, hown, hts⟩ hM ⟨callB_of (mP c) hts (q_good w1) rfl rfl rfl (hts _ w2) (hts _ (wAt_mem hc.1.1)) ⟨w4, w5, w6⟩ hroom, hts _ (wAt_mem hc.1.2)⟩ ⟨blind _, pre _⟩ rfl ?_ hlo1 ?_ (lv_room (by rw [z_catsS]; exact hcat)) hd ⟨hcl, hsl⟩) hlc (fin en _)
    · rw [List.length_map, List.append_nil, List.length_reverse, g3, ea2]
    · rw [List.append_nil, List.map_reverse, List.reverse_reverse, List.map_append]
  · obtain ⟨en, hd⟩ := q_dec (n := 3) hi rfl
    have hc := (q_rowI hi).2.2.1
    simp only [c_I, nMth, q_bleF (show c < 303 by omega), Bool.false_or, Bool.and_eq_true] at hc
    have ea2 := Nat.eq_of_beq_eq_true hc.2
    obtain ⟨ws, rfl, e2, g3⟩ := z_takeS ht
    rw [List.append_nil] at e2
    have hws : ws = as'.reverse ++ [.inr (.inl (some q))] := by
      have := congrArg List.reverse e2
      rw [List.reverse_reverse, List.reverse_cons] at this
      exact this.symm
    have hlen : (as'.map (zv ad)).length = mP c := by
      have h9 := congrArg List.length e2
      rw [List.length_cons, List.length_reverse, g3] at h9
      rw [List.length_map]
      omega
    have hq0 := hc.1.2
    unfold c_cls at hq0
    split at hq0
    · rename_i q0 hq1
      have hq2 := of_decide_eq_true hq0
      obtain ⟨hkd, hk0⟩ := z_ciS hq hq1
      obtain ⟨gb, w9, k2, cell, k3, k4, k5, k6⟩ := hH.2.2.2.1 _ _ hk0 hkd
      have hcls : s.vm.findClass (mY c).cls = some cell.cls := by rw [← hq2, k4]; exact (hK.1.1 _ _ hq1).2.1
      refine q_callW (va_runV (As := as'.map (zv ad)) (rest := rs.map (zv ad)) (b := ad q) (C := (mY c).cls) ⟨hx, hb, hml, hown, hts⟩ hM ⟨callB_of (mP c) hts (q_good w1) rfl rfl rfl (hts _ w2) (hts _ (wAt_mem hc.1.1.1.1.2)) ⟨w4, w5, w6⟩ hroom, hts _ (wAt_mem hc.1.1.1.2), hts _ (wAt_mem hc.1.1.2)⟩ ⟨blind _, ⟨cell, k3, by rw [k5]; rfl, hcls⟩, pre _⟩ rfl hlen hlo1 ?_ (lv_room (by rw [z_catsS]; exact hcat)) hd ⟨hcl, hsl⟩) hlc (fin en _)
      rw [hws, List.map_append, List.map_append, List.map_reverse, List.append_assoc]
      rfl
    · cases hq0
end ZCall
/-- who may be called from a plain body -/
noncomputable def z_pl (c : Nat) : Bool := Nat.blt c 298 && !(Nat.beq c 117 || (Nat.beq c 118 || (Nat.beq c 130 || Nat.beq c 162))) && c_plain c
noncomputable def zCall (T : Nat → Nat → zG → (Option zA → zM → Prop) → Prop) (D : Nat) (κ : Option zA → zM → Prop) (k c : Nat) (as : List zA) (f : zG) : Prop := match D with
  | 0 => False
  | D1 + 1 => bif z_pl c && Nat.ble (z_cats as) (mL c) then T D1 c (0, z_args 0 as, [], f.2.2.2) (fun r m1 => T (D1 + 1) k (f.1, f.2.1, r.toList ++ f.2.2.1, m1) κ) else False
/-- who may throw -/
noncomputable def z_thr (k : Nat) : Bool := Nat.beq k 117 || (Nat.beq k 118 || (Nat.beq k 130 || Nat.beq k 162))
theorem z_thrC {k : Nat} (h : z_thr k = true) : k = 117 ∨ k = 118 ∨ k = 130 ∨ k = 162 := by
  simp only [z_thr, Bool.or_eq_true] at h
  rcases h with h | h | h | h
  · exact Or.inl (Nat.eq_of_beq_eq_true h)
  · exact Or.inr (Or.inl (Nat.eq_of_beq_eq_true h))
  · exact Or.inr (Or.inr (Or.inl (Nat.eq_of_beq_eq_true h)))
  · exact Or.inr (Or.inr (Or.inr (Nat.eq_of_beq_eq_true h)))
theorem z_plT {c : Nat} (h : z_pl c = true) : z_thr c = false := by
  simp only [z_pl, Bool.and_eq_true, Bool.not_eq_true'] at h
  exact h.1.2
noncomputable def zXC (x : zX) (κ : Option zA → zM → Prop) : String → State → State → Prop := fun Ee _ t => Ee = q_nse ∧ ∃ m1 : zM, κ none m1 ∧ zH x.2.1 x.2.2.1 x.2.2.2.1 x.2.2.2.2.1 x.2.2.2.2.2 m1 t.heap
/-- as zT, of a method that may throw: it ends with none then -/
noncomputable def zTX (x : zX) (D k : Nat) (g : zG) (κ : Option zA → zM → Prop) : Prop := ∀ (p : Program) (e : Env) (s : State) (m : MethodId) (args : Array Value) (below : List Frame) (meth : Method) (c : Code), q_Ctx p (q_rm D 1 6) s m args meth c x.2.1 x.2.2.1 x.2.2.2.1 x.2.2.2.2.1 k → meth.sig.returnType = mR k → meth.locks = false → (∀ y ∈ c.exceptionTable.toList, False) → x.1.stackTraces = false → (∀ q : Nat, q < x.2.2.2.2.1.size → s.heap[q]? = x.2.2.2.2.1[q]?) →
  zW p x.1 e (q_rm D 1 6) s m args below meth c 0 0 (vx_MQ below (zQ x κ) (zXC x κ) args s 1 6 (fun q => x.2.2.2.2.1.size ≤ q)) x.2.1 x.2.2.1 x.2.2.2.1 x.2.2.2.2.1 x.2.2.2.2.2 k g
noncomputable def zTt (x : zX) (D k : Nat) (g : zG) (κ : Option zA → zM → Prop) : Prop := (z_thr k = true → zTX x D k g κ) ∧ (z_thr k = false → zT x D k g κ)
/-- all that is used of the machine behind here -/
noncomputable def zRules (T : Nat → Nat → zG → (Option zA → zM → Prop) → Prop) : Prop :=
  (∀ (stp : List (Nat × List Nat)) (n D k : Nat) (g : zG) (κ : Option zA → zM → Prop), z_blk stp k (fun g1 => T D k g1 κ) (zCall T D κ k) κ (fun m => z_thr k = true ∧ κ none m) n g → T D k g κ) ∧
  (∀ (ks : List Nat) (D k pc : Nat) (lo : zL) (st : List zA) (m : zM) (κ : Option zA → zM → Prop), T D k (pc, z_keep ks lo, st, m) κ → T D k (pc, lo, st, m) κ)
theorem zRulesP {x : zX} {stp : List (Nat × List Nat)} {n D k : Nat} {g : zG} {κ : Option zA → zM → Prop} (hk : z_thr k = false) (h : z_blk stp k (fun g1 => zTt x D k g1 κ) (zCall (zTt x) D κ k) κ (fun m => z_thr k = true ∧ κ none m) n g) : zT x D k g κ := by
  intro p e s m args below meth c C hret hlocks
  refine z_blkS (G := fun g1 => zTt x D k g1 κ) C (fun g1 h1 => h1.2 hk p e s m args below meth c C hret hlocks) (fun c0 as nx rs lo st pc mm site hcat hc0 hC => ?_) (fun r pc lo st mm hr hκ => ?_) (fun pc lo st mm _ _ _ hF => by rw [hk] at hF; exact absurd hF.1 (by decide)) n g h
  · unfold zCall at hC
    split at hC
    · exact hC.elim
    · rename_i D1
      obtain ⟨hb, hC⟩ := z_bif hC
      rw [Bool.and_eq_true] at hb
      have hpl := hb.1
      have hnt := z_plT hpl
      simp only [z_pl, Bool.and_eq_true] at hpl
      refine z_callS C site hcat (by have := q_blt hpl.1.1; omega) hpl.2 (Nat.le_of_ble_eq_true hb.2) (by show D1 + 1 + 8 ≤ D1 + 1 + 8; omega) (by show 80 * (D1 + 1) + 400 ≤ 80 * (D1 + 1) + 400; omega) (Nat.zero_le _) (Nat.zero_le _) (hC.2 hnt) (fun r m1 h1 => h1.2 hk p e s m args below meth c C hret hlocks)
  · rintro ls vs H locs ⟨hlo, rfl, hH, hlc⟩
    obtain ⟨nx, a1, a2, a3, z, hr⟩ := hr
    rcases hr with ⟨hi, v, rfl, rfl, hR⟩ | ⟨hi, v, rfl, rfl, hR⟩ | ⟨hi, rfl, rfl, hR⟩
    · obtain ⟨en, hd⟩ := q_dec (n := 1) hi rfl
      have ew : zv x.2.2.2.2.2 (.inl (wr v)) = zv x.2.2.2.2.2 (.inl v) := by
        show Value.int (Int32.ofInt (wr v)) = Value.int (Int32.ofInt v)
        rw [← wrE, z_ofN]
      rcases hR with hR | ⟨hR, hb⟩
      · exact W.iret C.1 C.2.1 (hret.trans hR) (fun t ht _ => ⟨some (.inl (wr v)), mm, congrArg (fun q => Outcome.returned (some q)) ew.symm, hκ, by rw [ht]; exact hH⟩) hlc hd
      · refine W.zret (ty := .boolean) C.1 C.2.1 (hret.trans hR) ?_ (fun t ht _ => ⟨some (.inl (wr v)), mm, congrArg (fun q => Outcome.returned (some q)) ew.symm, hκ, by rw [ht]; exact hH⟩) hlc hd
        exact (z_ffitS (ad := x.2.2.2.2.2) (ty := .boolean) hb).1
    · obtain ⟨en, hd⟩ := q_dec (n := 1) hi rfl
      exact W.lret C.1 C.2.1 (hret.trans hR) (fun t ht _ => ⟨some (.inr (.inr v)), mm, rfl, hκ, by rw [ht]; exact hH⟩) hlc hd
    · obtain ⟨en, hd⟩ := q_dec (n := 1) hi rfl
      exact W.vret C.1 C.2.1 (hret.trans hR) (fun t ht _ => ⟨none, mm, rfl, hκ, by rw [ht]; exact hH⟩) hlc hd
set_option maxHeartbeats 4000000 in
theorem zRulesX {x : zX} {stp : List (Nat × List Nat)} {n D k : Nat} {g : zG} {κ : Option zA → zM → Prop} (hk : z_thr k = true) (h : z_blk stp k (fun g1 => zTt x D k g1 κ) (zCall (zTt x) D κ k) κ (fun m => z_thr k = true ∧ κ none m) n g) : zTX x D k g κ := by
  intro p e s m args below meth c C hret hlocks htab hfl hsh
  have hkc := z_thrC hk
  have hcl : (mY k).cls = "SkirtsByTheDay" := by rcases hkc with rfl | rfl | rfl | rfl <;> rfl
  have hRi : mR k = some .int := by rcases hkc with rfl | rfl | rfl | rfl <;> rfl
  refine z_blkS (G := fun g1 => zTt x D k g1 κ) C (fun g1 h1 => h1.1 hk p e s m args below meth c C hret hlocks htab hfl hsh) (fun c0 as nx rs lo st pc mm site hcat hc0 hC => ?_) (fun r pc lo st mm hr hκ => ?_) (fun pc lo st mm g1 g2 h8 hF => ?_) n g h
  · unfold zCall at hC
    split at hC
    · exact hC.elim
    · rename_i D1
      obtain ⟨hb, hC⟩ := z_bif hC
      rw [Bool.and_eq_true] at hb
      have hpl := hb.1
      have hnt := z_plT hpl
      simp only [z_pl, Bool.and_eq_true] at hpl
      refine z_callS C site hcat (by have := q_blt hpl.1.1; omega) hpl.2 (Nat.le_of_ble_eq_true hb.2) (by show D1 + 1 + 8 ≤ D1 + 1 + 8; omega) (by show 80 * (D1 + 1) + 400 ≤ 80 * (D1 + 1) + 400; omega) (Nat.zero_le _) (Nat.zero_le _) (hC.2 hnt) (fun r m1 h1 => h1.1 hk p e s m args below meth c C hret hlocks htab hfl hsh)
  · rintro ls vs H locs ⟨hlo, rfl, hH, hlc⟩
    obtain ⟨nx, a1, a2, a3, z, hr⟩ := hr
    rcases hr with ⟨hi, v, rfl, rfl, hR⟩ | ⟨hi, v, rfl, rfl, hR⟩ | ⟨hi, rfl, rfl, hR⟩
    · obtain ⟨en, hd⟩ := q_dec (n := 1) hi rfl
      have ew : zv x.2.2.2.2.2 (.inl (wr v)) = zv x.2.2.2.2.2 (.inl v) := by
        show Value.int (Int32.ofInt (wr v)) = Value.int (Int32.ofInt v)
        rw [← wrE, z_ofN]
      refine vx_ret (W.widen (k := 1) (n := 6) (by omega) (by omega) ?_)
      exact W.iret C.1 C.2.1 (hret.trans hRi) (fun t ht _ => ⟨some (.inl (wr v)), mm, congrArg (fun q => Outcome.returned (some q)) ew.symm, hκ, by rw [ht]; exact hH⟩) hlc hd
    · rw [hRi] at hR
      cases hR
    · rw [hRi] at hR
      cases hR
  · rintro ls vs H locs ⟨hlo, rfl, hH, hlc⟩
    obtain ⟨n9, is, text, t1, t2, t3, t4, t5, t6⟩ := q_tsC hkc g2 g1
    obtain ⟨hx, hb, hml, hown, hts, hK, hnm, hRf, hRl⟩ := C
    obtain ⟨sa, hsa⟩ := hK.2.2.2.2.1 _ t1
    have hq0 : ∀ q : Nat, q < x.2.2.2.2.1.size → ¬ x.2.2.2.2.1.size ≤ q → s.heap[q]? = x.2.2.2.2.1[q]? := fun q hq _ => hsh q hq
    have hst2 : ((st.map (zv x.2.2.2.2.2)).map fun v => v.category).sum ≤ 8 := by
      rw [z_catsS]
      exact h8
    rw [hcl] at hown
    refine q_throw (own := "SkirtsByTheDay") (cls := q_nse) (Y0 := "java/lang/RuntimeException") (rr := ["java/lang/Exception"]) (ik := 119) (is := is) (ic := 123) (i1 := 13) (by1 := q_b13) (A := fun q => x.2.2.2.2.1.size ≤ q) hx hb hfl (by decide +kernel) (by decide +kernel) (by decide +kernel) (by decide +kernel) hown (by decide) (by decide) (by decide)
      (hts _ q_own_k) (hts _ q_own_i) hsa (q_hat hts hK.2.2.2) (List.all_eq_true.mp q_own_o) (hK.2.2.2.2.2.1.kept hq0) (hK.2.2.2.2.2.2.kept hq0) (fun q hq1 hq2 => ?_) (by rw [hml]; exact hlo.1) t2 t3 t4 t5 t6 (fun y hy => (htab y hy).elim)
      (by show 1 + 4 < D + 8; omega) (by show ((st.map (zv x.2.2.2.2.2)).map fun v => v.category).sum + (13 * (1 + 2) + 43) ≤ 80 * D + 400; omega) (by show 0 + 1 ≤ 1; omega) (by show 0 + 6 ≤ 6; omega) hlocks (fun t hA hz hq => ?_) hlc (by omega) (by omega)
    · have hq3 : q < x.2.2.2.2.1.size := Nat.lt_of_not_le hq2
      rw [hH.1 q hq3, hsh q hq3]
    · exact ⟨rfl, mm, hF.2, hH.grow hz hq⟩
theorem zRulesS (x : zX) : zRules (zTt x) := ⟨fun _ _ _ _ _ _ h => ⟨fun hk => zRulesX hk h, fun hk => zRulesP hk h⟩, fun ks D k pc lo st mm κ h => ⟨fun hk p e s m args below meth c C hret hlocks htab hfl hsh ls vs H locs F => h.1 hk p e s m args below meth c C hret hlocks htab hfl hsh ls vs H locs ⟨z_keepS ks F.1, F.2⟩, fun hk p e s m args below meth c C hret hlocks ls vs H locs F => h.2 hk p e s m args below meth c C hret hlocks ls vs H locs ⟨z_keepS ks F.1, F.2⟩⟩⟩
/-- a method that may throw, as the law's helpers call it -/
theorem z_metX {x : zX} {κ : Option zA → zM → Prop} {D c : Nat} {as : List zA} {mm : zM} {H0 : Heap} (hk : z_thr c = true) (hfl : x.1.stackTraces = false) (hcat : z_cats as ≤ mL c) (hH : zH x.2.1 x.2.2.1 x.2.2.2.1 x.2.2.2.2.1 x.2.2.2.2.2 mm H0) (hT : zTX x D c (0, z_args 0 as, [], mm) κ) :
    vx_Met x.1 (mY c) (q_ws c) (q_rm D 1 6) (q_Pc x.2.1 x.2.2.1 x.2.2.2.1 x.2.2.2.2.1 H0 (as.map (zv x.2.2.2.2.2))) (zQ x κ) (zXC x κ) 1 6 (fun q => x.2.2.2.2.1.size ≤ q) := by
  have hkc := z_thrC hk
  have hk2 : c < 302 := by omega
  have hp : c_plain c = true := by rcases hkc with rfl | rfl | rfl | rfl <;> rfl
  have hcl : (mY c).cls = "SkirtsByTheDay" := by rcases hkc with rfl | rfl | rfl | rfl <;> rfl
  have hpn : plainName (mY c).cls = true := by rw [hcl]; decide +kernel
  obtain ⟨w1, w2, w3, w4, w5, w6, w7⟩ := q_MW (q_meth hk2 hp)
  refine vx_ofW (cc := mC c) (maxL := mL c) (ret := mR c) hpn rfl ?_
  intro p e s m args below meth cd s₁ B hml htab hv
  obtain ⟨rfl, hK, hHH⟩ := hv
  have hts0 := atoms_spec (ws := q_ws c) B.pre
  have hts : ∀ w ∈ tb, w.before (as.map (zv x.2.2.2.2.2)).toArray s = true := fun w hw => hts0 w (List.mem_cons_of_mem _ hw)
  have hown : s.vm.findClass (mY c).cls = some m.cls := findClass_of_methodNamed B.named
  have hlocks := B.notSynchronized
  have hnm : meth.name = (mY c).name := (name_of_methodNamed B.named B.method).1
  have hret := B.returns
  have C : q_Ctx p (q_rm D 1 6) s m (as.map (zv x.2.2.2.2.2)).toArray meth cd x.2.1 x.2.2.1 x.2.2.2.1 x.2.2.2.2.1 c := ⟨B.exec, B.bytes, hml, hown, hts, hK, fun q => hnm.trans q, by show 8 ≤ D + 8; omega, by show 400 ≤ 80 * D + 400; omega⟩
  have hl := lv_entry (as.map (zv x.2.2.2.2.2)) (n := mL c) (by rw [q_slN, z_catsS]; exact hcat)
  rw [lg_entry_eq, hHH]
  generalize (lg_sl (as.map (zv x.2.2.2.2.2)) ++ List.replicate (mL c - (lg_sl (as.map (zv x.2.2.2.2.2))).length) Slot.unset).toArray = ls at hl ⊢
  exact hT p e s m _ below meth cd C hret hlocks htab hfl (fun q hq => by rw [hHH]; exact hH.1 q hq) ls [] H0 [] ⟨⟨hl.1, hl.2.1, fun q hq => hl.2.2 q (z_argsL 0 q hq)⟩, rfl, hH, fun q hq => nomatch hq⟩
noncomputable abbrev zr (c : Nat) : zA := .inr (.inl (some c))
noncomputable abbrev zi (v : Int) : zA := .inl v
noncomputable abbrev zl (v : Int) : zA := .inr (.inr v)
section ZUse
variable {T : Nat → Nat → zG → (Option zA → zM → Prop) → Prop}
theorem zkeep (hT : zRules T) {ks : List Nat} {D k pc : Nat} {lo lo2 : zL} {st : List zA} {m : zM} {κ : Option zA → zM → Prop} (hlo : z_keep ks lo = lo2) (h : T D k (pc, lo2, st, m) κ) : T D k (pc, lo, st, m) κ := hT.2 ks D k pc lo st m κ (hlo ▸ h)
end ZUse
theorem z_ixL {i n : Int} (h : (s_le 0 (wr i) && s_le (wr i + 1) n) = true) : z_ix i n := by
  rw [Bool.and_eq_true] at h
  exact ⟨s_le_iff.mp h.1, by have := s_le_iff.mp h.2; omega⟩
theorem z_b01L {v : Int} (h : (s_le 0 (wr v) && s_le (wr v) 1) = true) : 0 ≤ wr v ∧ wr v ≤ 1 := by
  rw [Bool.and_eq_true] at h
  exact ⟨s_le_iff.mp h.1, s_le_iff.mp h.2⟩
theorem z_leL {a b : Int} (h : s_le a b = true) : a ≤ b := s_le_iff.mp h
