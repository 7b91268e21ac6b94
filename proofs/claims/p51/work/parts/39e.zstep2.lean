/-! Switches, fields, rows. -/
theorem z_tabS {w : Int} {pc : Nat} {G : Nat → Prop} {d : Int} : ∀ {os : List Int} {z : Int}, z_tab w pc G d z os → (∀ o, z ≤ w → os[(w - z).toNat]? = some o → G ((pc : Int) + o).toNat) ∧ ((w < z ∨ z + (os.length : Int) ≤ w) → G ((pc : Int) + d).toNat)
  | [], z, h => ⟨fun o _ ho => by simp at ho, fun _ => h⟩
  | o0 :: os, z, h => by
    obtain ⟨h1, h2⟩ := h
    refine ⟨fun o hz ho => ?_, fun hw => ?_⟩
    · by_cases e : w = z
      · rw [show (w - z).toNat = 0 by omega] at ho
        simp at ho
        rw [← ho]
        exact h1 e
      · refine (z_tabS (h2 e)).1 o (by omega) ?_
        rw [show (w - z).toNat = (w - (z + 1)).toNat + 1 by omega] at ho
        simpa using ho
    · rw [List.length_cons] at hw
      exact (z_tabS (h2 (by omega))).2 (by omega)
theorem z_lookS {w : Int} {pc : Nat} {G : Nat → Prop} {d : Int} : ∀ {ps : List (Int × Int)}, z_look w pc G d ps → G ((pc : Int) + Op.lookupswitch.offset ps d w).toNat
  | [], h => h
  | (a, o) :: r, h => by
    obtain ⟨h1, h2⟩ := h
    rw [Op.lookupswitch.offset_cons]
    by_cases e : a = w
    · rw [if_pos e]
      exact h1 e.symm
    · rw [if_neg e]
      exact z_lookS (h2 (fun q => e q.symm))
theorem z_spS {w : Int} {G : Nat → Prop} : ∀ {cs : List Nat} {z : Int}, z_sp w G z cs → z ≤ w → ∀ c, cs[(w - z).toNat]? = some c → G c
  | [], z, _, _, c, hc => by simp at hc
  | c0 :: cs, z, h, hz, c, hc => by
    obtain ⟨h1, h2⟩ := h
    by_cases e : w = z
    · rw [show (w - z).toNat = 0 by omega] at hc
      simp at hc
      rw [← hc]
      exact h1 e
    · refine z_spS h2 (by omega) c ?_
      rw [show (w - z).toNat = (w - (z + 1)).toNat + 1 by omega] at hc
      simpa using hc
theorem z_ciS {q ci : Nat} (h : Nat.beq (z_ci q) ci = true) {w : vw_C} (hw : vwCl[ci]? = some w) : zkd q = some (.inr (.inr (.inr ci))) ∧ q ≠ 0 := by
  have e := Nat.eq_of_beq_eq_true h
  have h1 : zkd q = some (.inr (.inr (.inr ci))) := by
    unfold z_ci at e
    split at e
    · rename_i c2 hq
      rw [hq, e]
    · rw [← e] at hw
      exact absurd hw (by simp [vwCl])
  refine ⟨h1, fun e0 => ?_⟩
  rw [e0] at h1
  cases h1
theorem z_rwS {m : zM} {q : Nat} {ty : FieldType} {n : Int} (h : z_rw m q = some (ty, n)) (h0 : q ≠ 0) : ∃ n0 : Nat, zkd q = some (.inl (ty, n0)) ∧ n = (n0 : Int) := by
  unfold z_rw at h
  rw [q_beqF h0] at h
  simp only [cond_false] at h
  split at h
  · rename_i ty2 n2 hq
    cases h
    exact ⟨_, hq, rfl⟩
  · cases h
theorem z_rw0 {m : zM} {ty : FieldType} {n : Int} (h : z_rw m 0 = some (ty, n)) : ty = .int ∧ n = m 110 0 := by
  cases h
  exact ⟨rfl, rfl⟩
theorem z_lrS {q : Nat} {n : Int} (h : z_lr q = some n) : ∃ n0 : Nat, zkd q = some (.inr (.inl n0)) ∧ n = (n0 : Int) ∧ q ≠ 0 := by
  unfold z_lr at h
  split at h
  · rename_i n2 hq
    cases h
    refine ⟨_, hq, rfl, fun e0 => ?_⟩
    rw [e0] at hq
    cases hq
  · cases h
theorem z_rrS {q : Nat} {cs : List Nat} (h : z_rr q = some cs) : zkd q = some (.inr (.inr (.inl cs))) ∧ q ≠ 0 := by
  unfold z_rr at h
  split at h
  · rename_i n2 hq
    cases h
    refine ⟨hq, fun e0 => ?_⟩
    rw [e0] at hq
    cases hq
  · cases h
theorem z_keepT {ty : FieldType} {kind : Nat} {v : Int} (h : p_is ty kind = true) (hf : z_fit ty v) : q_keep ty (Int32.ofInt v) = Int32.ofInt v := by
  rcases q_isT h with ⟨-, rfl⟩ | ⟨-, rfl⟩ | ⟨-, rfl⟩ | ⟨-, rfl⟩
  · rfl
  · show vp_nar .byte (Int32.ofInt v) = _
    rw [vp_nar_byte]
    exact (q_i2bB _).2.2 (by rw [wrE]; exact hf.1) (by rw [wrE]; exact hf.2)
  · exact (s_bool1 _).2.2 (by rw [wrE]; exact hf.1) (by rw [wrE]; exact hf.2)
  · show vp_nar .char (Int32.ofInt v) = _
    rw [vp_nar_char, ← lg_i2c_nf]
    exact (q_i2cB _).2.2 (by rw [wrE]; exact hf.1) (by rw [wrE]; exact hf.2)
theorem z_ffitS {ad : Nat → Nat} {ty : FieldType} {v : Int} (h : z_ffit ty v) : narrow ty (zv ad (.inl v)) = zv ad (.inl v) ∧ fits ty (zv ad (.inl v)) = true := by
  unfold z_ffit at h
  split at h
  · exact ⟨rfl, rfl⟩
  · have hc : Int32.ofInt v = 0 ∨ Int32.ofInt v = 1 := by
      by_cases h0 : wr v = 0
      · exact Or.inl (z_eq32 (by rw [wrE, h0]; rfl))
      · exact Or.inr (z_eq32 (by rw [wrE, show wr v = 1 by omega]; rfl))
    show narrow .boolean (.int (Int32.ofInt v)) = .int (Int32.ofInt v) ∧ fits .boolean (.int (Int32.ofInt v)) = true
    rcases hc with e | e
    · rw [e]
      exact ⟨rfl, rfl⟩
    · rw [e]
      exact ⟨rfl, rfl⟩
  · exact h.elim
theorem z_isAS {ty : FieldType} (h : z_isA ty = true) : ∃ t, ty = .array t := by
  unfold z_isA at h
  split at h
  · exact ⟨_, rfl⟩
  · cases h
section ZStep2
variable {p : Program} {l : Launch} {e : Env} {R : Room} {s : State} {m : MethodId} {args : Array Value} {below : List Frame} {meth : Method} {c : Code} {cells slots : Nat} {Q : State → Prop}
variable {dC : Nat → ClassId} {dI : Nat → Nat → Nat} {dA : FieldType → ClassId} {ad : Nat → Nat} {Hb : Heap} {k pc nx a1 a2 a3 : Nat} {z : Int} {lo : zL} {st : List zA} {mm : zM} {G : zG → Prop}
theorem zs_tsw {d low high : Int} {os : Array Int} (C : q_Ctx p R s m args meth c dC dI dA Hb k) (hi : ins k pc = some (.tableswitch d low high os, nx, a1, a2, a3, z)) (h : bif decide (high - low + 1 = (os.size : Int)) then z_o1 st (fun a r => z_tab (wr a) pc (fun t => G (t, lo, r, mm)) d low os.toList) else False) (kk : ∀ g, G g → zW p l e R s m args below meth c cells slots Q dC dI dA Hb ad k g) : zW p l e R s m args below meth c cells slots Q dC dI dA Hb ad k (pc, lo, st, mm) := by
  obtain ⟨hx, hb, hml, hown, hts, hK, hnm, hRf, hRl⟩ := C
  rintro ls vs H locs ⟨hlo, rfl, hH, hlc⟩
  show W p l e R s m args below meth c H locs cells slots Q (F0 m pc ls (st.map (zv ad)))
  have hc := (q_rowI hi).2.2.1
  have hd := (q_rowI hi).2.1
  simp only [c_I, Bool.and_eq_true, decide_eq_true_eq] at hc
  replace h := z_bif h
  obtain ⟨hsz, h⟩ := h
  replace hsz := of_decide_eq_true hsz
  unfold z_o1 at h
  split at h
  · rename_i a rr
    have hl : (os.toList.length : Int) = (os.size : Int) := by rw [Array.length_toList]
    obtain ⟨t1, t2⟩ := z_tabS h
    by_cases hin : low ≤ wr a ∧ wr a ≤ high
    · have hlt : (wr a - low).toNat < os.toList.length := by omega
      have ho : os.toList[(wr a - low).toNat]? = some (os.toList[(wr a - low).toNat]) := List.getElem?_eq_getElem hlt
      generalize os.toList[(wr a - low).toNat] = off at ho
      have hoff : 0 ≤ (pc : Int) + off := of_decide_eq_true (List.all_eq_true.mp hc.2 off (List.mem_of_getElem? ho))
      refine lv_tableIn (tgt := ((pc : Int) + off).toNat) hx hb hd (by rw [wrE]; omega) (by rw [wrE]; omega) (by rw [wrE, ← Array.getElem?_toList]; exact ho) (by rw [Int.toNat_of_nonneg hoff]) ?_
      exact kk _ (t1 off hin.1 ho) ls _ H locs ⟨hlo, rfl, hH, hlc⟩
    · refine lv_tableOut (tgt := ((pc : Int) + d).toNat) hx hb hd (by rw [wrE]; omega) (by rw [Int.toNat_of_nonneg hc.1]) ?_
      exact kk _ (t2 (by omega)) ls _ H locs ⟨hlo, rfl, hH, hlc⟩
  · exact h.elim
theorem zs_lsw {d : Int} {ps : Array (Int × Int)} (C : q_Ctx p R s m args meth c dC dI dA Hb k) (hi : ins k pc = some (.lookupswitch d ps, nx, a1, a2, a3, z)) (h : bif (ps.toList.zip (ps.toList.drop 1)).all (fun q => decide (q.1.1 < q.2.1)) && ps.toList.all (fun q => s_le 0 ((pc : Int) + q.2)) && s_le 0 ((pc : Int) + d) then z_o1 st (fun a r => z_look (wr a) pc (fun t => G (t, lo, r, mm)) d ps.toList) else False) (kk : ∀ g, G g → zW p l e R s m args below meth c cells slots Q dC dI dA Hb ad k g) : zW p l e R s m args below meth c cells slots Q dC dI dA Hb ad k (pc, lo, st, mm) := by
  obtain ⟨hx, hb, hml, hown, hts, hK, hnm, hRf, hRl⟩ := C
  rintro ls vs H locs ⟨hlo, rfl, hH, hlc⟩
  show W p l e R s m args below meth c H locs cells slots Q (F0 m pc ls (st.map (zv ad)))
  have hd := (q_rowI hi).2.1
  replace h := z_bif h
  obtain ⟨hh, h⟩ := h
  simp only [Bool.and_eq_true] at hh
  unfold z_o1 at h
  split at h
  · rename_i a rr
    have hoff : 0 ≤ (pc : Int) + Op.lookupswitch.offset ps.toList d (wr a) := by
      rcases s_offMem (d := d) (x := wr a) (ps := ps.toList) with h1 | ⟨q, h1, h2⟩
      · rw [h1]
        exact s_le_iff.mp hh.2
      · rw [h2]
        exact s_le_iff.mp (List.all_eq_true.mp hh.1.2 q h1)
    refine lv_lookup (off := Op.lookupswitch.offset ps.toList d (wr a)) (tgt := ((pc : Int) + Op.lookupswitch.offset ps.toList d (wr a)).toNat) hx hb hd hh.1.1 (by rw [wrE]) (by rw [Int.toNat_of_nonneg hoff]) ?_
    exact kk _ (z_lookS h) ls _ H locs ⟨hlo, rfl, hH, hlc⟩
  · exact h.elim
theorem zs_getf {ci : Nat} (C : q_Ctx p R s m args meth c dC dI dA Hb k) (hi : ins k pc = some (.getfield ci, nx, a1, a2, a3, z)) (h : match st with
      | .inr (.inl (some q)) :: r => bif Nat.beq (z_ci q) a1 then z_gf mm q a2 (fun v => G (nx, lo, v :: r, mm)) else False
      | _ => False) (kk : ∀ g, G g → zW p l e R s m args below meth c cells slots Q dC dI dA Hb ad k g) : zW p l e R s m args below meth c cells slots Q dC dI dA Hb ad k (pc, lo, st, mm) := by
  obtain ⟨hx, hb, hml, hown, hts, hK, hnm, hRf, hRl⟩ := C
  rintro ls vs H locs ⟨hlo, rfl, hH, hlc⟩
  show W p l e R s m args below meth c H locs cells slots Q (F0 m pc ls (st.map (zv ad)))
  obtain ⟨en, hd⟩ := q_dec (n := 3) hi rfl
  subst en
  have hc := (q_rowI hi).2.2.1
  obtain ⟨w, hw1, hw2, hw3, hw4⟩ := q_fldW hc
  split at h
  · rename_i q rr
    replace h := z_bif h
    obtain ⟨hj, h⟩ := h
    obtain ⟨hk1, hk0⟩ := z_ciS hj hw1
    obtain ⟨-, q2, g2, g3⟩ := hH.2.2.2.1 _ _ hk0 hk1
    cases Option.some.inj (hw1.symm.trans g2)
    have gx : ((List.range w.2.2).map (fun k => zv ad (z_fv mm q k)))[a2]? = some (zv ad (z_fv mm q a2)) := by
      rw [List.getElem?_map, List.getElem?_range hw2]
      rfl
    refine q_get (D := (dC, dI)) hx hb hts (q_clsA _ _ hw1).1 hown hK.1 g3 hw1 a2 hw2 (hts _ hw3) hw4 gx hd ?_
    unfold z_gf at h
    cases h9 : Nat.beq (z_fk q a2) 999 with
    | false =>
      rw [h9] at h
      exact kk _ h ls _ H locs ⟨hlo, rfl, hH, hlc⟩
    | true =>
      rw [h9] at h
      have e9 := Nat.eq_of_beq_eq_true h9
      obtain ⟨h1, h2, h3⟩ := h
      have ev : z_fv mm q a2 = .inr (.inl (z_rd (mm q a2))) := by
        unfold z_fv
        rw [e9]
        rfl
      rw [ev]
      rcases h1 with h1 | h1
      · rw [h1]
        exact kk _ (h2 h1) ls _ H locs ⟨hlo, rfl, hH, hlc⟩
      · rw [h1]
        exact kk _ (h3 h1) ls _ H locs ⟨hlo, rfl, hH, hlc⟩
  · exact h.elim
theorem z_putH {q ci : Nat} {w : vw_C} {H H1 : Heap} {mm : zM} {v : zA} {x : Int} (hH : zH dC dI dA Hb ad mm H) (hw1 : vwCl[ci]? = some w) (hw2 : a2 < w.2.2) (hk1 : zkd q = some (.inr (.inr (.inr ci)))) (hk0 : q ≠ 0) (hv : z_fv (zu mm q a2 x) q a2 = v) (z1 : H1.size = H.size) (z2 : ∀ y : Nat, y ≠ ad q → H1[y]? = H[y]?) (z3 : t_OB (ad q) (dC ci) w.2.2 (dI ci) H1 (vp_V (((List.range w.2.2).map (fun k => zv ad (z_fv mm q k))).set a2 (zv ad v)))) : zH dC dI dA Hb ad (zu mm q a2 x) H1 := by
  refine hH.set hk1 hk0 z1 z2 (fun d hd => zu_ne hd) ⟨w, hw1, ?_⟩
  rw [z_setL (g := fun k => zv ad (z_fv (zu mm q a2 x) q k)) hw2 (by show zv ad (z_fv (zu mm q a2 x) q a2) = _; rw [hv]) (fun j hj => ?_)] at z3
  · exact z3
  · show zv ad (z_fv (zu mm q a2 x) q j) = zv ad (z_fv mm q j)
    unfold z_fv
    rw [zu_at, if_neg hj]
theorem zs_putf {ci : Nat} (C : q_Ctx p R s m args meth c dC dI dA Hb k) (hi : ins k pc = some (.putfield ci, nx, a1, a2, a3, z)) (h : match st with
      | v :: .inr (.inl (some q)) :: r => bif Nat.beq (z_ci q) a1 then z_pf mm q a1 a2 v (fun m1 => G (nx, lo, r, m1)) else False
      | _ => False) (kk : ∀ g, G g → zW p l e R s m args below meth c cells slots Q dC dI dA Hb ad k g) : zW p l e R s m args below meth c cells slots Q dC dI dA Hb ad k (pc, lo, st, mm) := by
  obtain ⟨hx, hb, hml, hown, hts, hK, hnm, hRf, hRl⟩ := C
  rintro ls vs H locs ⟨hlo, rfl, hH, hlc⟩
  show W p l e R s m args below meth c H locs cells slots Q (F0 m pc ls (st.map (zv ad)))
  obtain ⟨en, hd⟩ := q_dec (n := 3) hi rfl
  subst en
  have hc := (q_rowI hi).2.2.1
  have hc' : c_fld k ci a1 a2 a3 = true ∧ c_fin k a1 a2 = true := by simpa only [c_I, Bool.and_eq_true] using hc
  obtain ⟨w, hw1, hw2, hw3, hw4⟩ := q_fldW hc'.1
  split at h
  · rename_i v q rr
    replace h := z_bif h
    obtain ⟨hj, h⟩ := h
    obtain ⟨hk1, hk0⟩ := z_ciS hj hw1
    obtain ⟨gb, q2, g2, g3⟩ := hH.2.2.2.1 _ _ hk0 hk1
    cases Option.some.inj (hw1.symm.trans g2)
    have hcl := q_clsA _ _ hw1
    have go : ∀ (x : Int), z_fv (zu mm q a2 x) q a2 = v → narrow (tyOf a1 a2) (zv ad v) = zv ad v → fits (tyOf a1 a2) (zv ad v) = true → G (pc + 3, lo, rr, zu mm q a2 x) → W p l e R s m args below meth c H locs cells slots Q (F0 m pc ls (zv ad v :: .ref (ad q) :: rr.map (zv ad))) := by
      intro x hv f1 f2 hG
      refine q_put (D := (dC, dI)) hx hb hts hcl.1 (tyOf a1) hcl.2.1 hcl.2.2.1 hown hK.1 g3 hw1 a2 hw2 (hts _ hw3) hw4 ((q_finW hc'.2 hw1).imp id (fun q => ⟨hnm q.1, q.2⟩)) f1 f2 (by rw [List.length_map, List.length_range]; exact hw2) hd (fun H1 sl z1 z2 z3 => ?_)
      refine kk _ hG ls _ H1 _ ⟨hlo, rfl, z_putH hH hw1 hw2 hk1 hk0 hv z1 z2 z3, fun y hy => ?_⟩
      rcases List.mem_append.mp hy with hy | hy
      · exact hlc y hy
      · rw [List.mem_singleton.mp hy]
        exact gb
    unfold z_pf at h
    cases h0 : Nat.beq (z_fk q a2) 0 with
    | true =>
      rw [h0] at h
      simp only [cond_true] at h
      split at h
      · rename_i a
        obtain ⟨hf, h⟩ := h
        obtain ⟨f1, f2⟩ := z_ffitS (ad := ad) hf
        refine go a ?_ f1 f2 h
        unfold z_fv
        rw [h0, zu_at, if_pos rfl]
        rfl
      · exact h.elim
    | false =>
      rw [h0] at h
      simp only [cond_false] at h
      cases h9 : Nat.beq (z_fk q a2) 999 with
      | false =>
        rw [h9] at h
        exact h.elim
      | true =>
        rw [h9] at h
        simp only [cond_true] at h
        split at h
        · rename_i w9
          replace h := z_bif h
          obtain ⟨hb9, h⟩ := h
          rw [Bool.and_eq_true, Bool.or_eq_true] at hb9
          obtain ⟨t9, e9⟩ := z_isAS hb9.2
          refine go (w9 : Int) ?_ (by rw [e9]; rfl) (by rw [e9]; rfl) h
          unfold z_fv
          rw [h0, h9, zu_at, if_pos rfl]
          rcases hb9.1 with h8 | h8
          · rw [Nat.eq_of_beq_eq_true h8]
            rfl
          · rw [Nat.eq_of_beq_eq_true h8]
            rfl
        · exact h.elim
  · exact h.elim
theorem zs_rld {kind : Nat} (C : q_Ctx p R s m args meth c dC dI dA Hb k) (hi : ins k pc = some (q_ldI kind, nx, a1, a2, a3, z)) (h : z_rdR mm st kind (fun v r => G (nx, lo, .inl v :: r, mm))) (kk : ∀ g, G g → zW p l e R s m args below meth c cells slots Q dC dI dA Hb ad k g) : zW p l e R s m args below meth c cells slots Q dC dI dA Hb ad k (pc, lo, st, mm) := by
  obtain ⟨hx, hb, hml, hown, hts, hK, hnm, hRf, hRl⟩ := C
  rintro ls vs H locs ⟨hlo, rfl, hH, hlc⟩
  show W p l e R s m args below meth c H locs cells slots Q (F0 m pc ls (st.map (zv ad)))
  have hlen : c_lenI (q_ldI kind) = some 1 := by rcases kind with _ | _ | kind <;> rfl
  obtain ⟨en, hd⟩ := q_dec (n := 1) hi hlen
  subst en
  unfold z_rdR at h
  split at h
  · rename_i i q rr
    split at h
    · rename_i ty n hrw
      replace h := z_bif h
      obtain ⟨hty, hix, h⟩ := h
      have fin : W p l e R s m args below meth c H locs cells slots Q (F0 m (pc + 1) ls (.int (Int32.ofInt (mm q (wr i).toNat)) :: rr.map (zv ad))) := kk _ h ls _ H locs ⟨hlo, rfl, hH, hlc⟩
      by_cases h0 : q = 0
      · subst h0
        obtain ⟨rfl, rfl⟩ := z_rw0 hrw
        obtain ⟨⟨s2, s3⟩, scr, t1, t2, t3, t4⟩ := hH.2.2.1
        have t3 : ((scr.slots.size : Nat) : Int) = mm 110 0 := t3
        have ek : kind = 0 := by rcases q_isT hty with ⟨e, -⟩ | ⟨-, e⟩ | ⟨-, e⟩ | ⟨-, e⟩ <;> first | exact e | cases e
        subst ek
        rw [← t3] at hix
        obtain ⟨i1, i2, i3⟩ := z_ixS hix
        have hsc : Hb[dA .short]? = some scr := by
          rw [← s2, ← hH.1 _ s3]
          exact t1
        refine W.iald (v := .int (Int32.ofInt (mm 0 (wr i).toNat))) hx hb t1 (hK.2.2.1.2 scr hsc) t2 i1 ?_ rfl rfl hd fin
        rw [i3]
        exact t4 _ i2
      · obtain ⟨n0, hk, rfl⟩ := z_rwS hrw h0
        obtain ⟨gb, g1, g2⟩ := hH.2.2.2.1 _ _ h0 hk
        obtain ⟨i1, i2, i3⟩ := z_ixS hix
        refine q_ld hx hb (q_ofT hty hK) g1 i1 hd ?_ ?_
        · rcases q_isT hty with ⟨rfl, e1⟩ | ⟨rfl, e1⟩ | ⟨rfl, e1⟩ | ⟨rfl, e1⟩ <;> simp [q_ldI, e1]
        · rw [i3]
          exact fin
    · exact h.elim
  · exact h.elim
theorem zs_rst {kind : Nat} (C : q_Ctx p R s m args meth c dC dI dA Hb k) (hi : ins k pc = some (q_stI kind, nx, a1, a2, a3, z)) (h : z_wrR mm st kind (fun m1 r => G (nx, lo, r, m1))) (kk : ∀ g, G g → zW p l e R s m args below meth c cells slots Q dC dI dA Hb ad k g) : zW p l e R s m args below meth c cells slots Q dC dI dA Hb ad k (pc, lo, st, mm) := by
  obtain ⟨hx, hb, hml, hown, hts, hK, hnm, hRf, hRl⟩ := C
  rintro ls vs H locs ⟨hlo, rfl, hH, hlc⟩
  show W p l e R s m args below meth c H locs cells slots Q (F0 m pc ls (st.map (zv ad)))
  have hlen : c_lenI (q_stI kind) = some 1 := by rcases kind with _ | _ | kind <;> rfl
  obtain ⟨en, hd⟩ := q_dec (n := 1) hi hlen
  subst en
  unfold z_wrR at h
  split at h
  · rename_i v i q rr
    cases hq0 : Nat.beq q 0 with
    | true =>
      rw [hq0] at h
      exact h.elim
    | false =>
      rw [hq0] at h
      simp only [cond_false] at h
      have h0 : q ≠ 0 := Nat.ne_of_beq_eq_false hq0
      split at h
      · rename_i ty n hrw
        replace h := z_bif h
        obtain ⟨hty, ⟨hix, hfit⟩, h⟩ := h
        obtain ⟨n0, hk, rfl⟩ := z_rwS hrw h0
        obtain ⟨gb, g1, g2⟩ := hH.2.2.2.1 _ _ h0 hk
        obtain ⟨i1, i2, i3⟩ := z_ixS hix
        refine q_st hx hb (q_ofT hty hK) g1 (x := Int32.ofInt v) i1 hd ?_ (fun H1 z1 z2 z3 => ?_)
        · rcases q_isT hty with ⟨rfl, e1⟩ | ⟨rfl, e1⟩ | ⟨rfl, e1⟩ | ⟨rfl, e1⟩ <;> simp [q_stI, e1]
        · rw [z_keepT hty hfit, i3] at z3
          refine kk _ h ls _ H1 _ ⟨hlo, rfl, hH.set hk h0 z1 z2 (fun d hd => zu_ne hd) ⟨?_, g2⟩, fun y hy => ?_⟩
          · rw [z3]
            congr 4
            funext j
            dsimp only
            rw [zu_at]
            unfold upd
            by_cases e : j = (wr i).toNat
            · rw [if_pos e, if_pos e]
            · rw [if_neg e, if_neg e]
          · rcases List.mem_append.mp hy with hy | hy
            · exact hlc y hy
            · rw [List.mem_singleton.mp hy]
              exact gb
      · exact h.elim
  · exact h.elim
theorem zs_lald (C : q_Ctx p R s m args meth c dC dI dA Hb k) (hi : ins k pc = some (.laload, nx, a1, a2, a3, z)) (h : match st with
      | .inl i :: .inr (.inl (some q)) :: r => (match z_lr q with
        | some n => z_ix i n ∧ G (nx, lo, .inr (.inr (mm q (wr i).toNat)) :: r, mm)
        | none => False)
      | _ => False) (kk : ∀ g, G g → zW p l e R s m args below meth c cells slots Q dC dI dA Hb ad k g) : zW p l e R s m args below meth c cells slots Q dC dI dA Hb ad k (pc, lo, st, mm) := by
  obtain ⟨hx, hb, hml, hown, hts, hK, hnm, hRf, hRl⟩ := C
  rintro ls vs H locs ⟨hlo, rfl, hH, hlc⟩
  show W p l e R s m args below meth c H locs cells slots Q (F0 m pc ls (st.map (zv ad)))
  obtain ⟨en, hd⟩ := q_dec (n := 1) hi rfl
  subst en
  split at h
  · rename_i i q rr
    split at h
    · rename_i n hlr
      obtain ⟨hix, h⟩ := h
      obtain ⟨n0, hk, rfl, h0⟩ := z_lrS hlr
      obtain ⟨gb, g1⟩ := hH.2.2.2.1 _ _ h0 hk
      have g1 : H[ad q]? = some (vp_cell (dA .long) (n0, .inr (.inl (fun j => Int64.ofInt (mm q j))))) := g1
      obtain ⟨i1, i2, i3⟩ := z_ixS hix
      refine W.lald (v := .long (Int64.ofInt (mm q (wr i).toNat))) hx hb g1 ((hK.1.2 4 _ rfl).1 n0 (fun j => .long (Int64.ofInt (mm q j)))) (fun q => by cases q) (by show ¬ (Int32.ofInt i < 0 ∨ (arrV _ _ _).slots.size ≤ _); rw [arrV_size]; exact i1) ?_ rfl rfl hd (kk _ h ls _ H locs ⟨hlo, rfl, hH, hlc⟩)
      show (arrV _ _ _).slots[_]? = _
      rw [i3, arrV_read _ _ i2]
    · exact h.elim
  · exact h.elim
theorem zs_last (C : q_Ctx p R s m args meth c dC dI dA Hb k) (hi : ins k pc = some (.lastore, nx, a1, a2, a3, z)) (h : match st with
      | .inr (.inr v) :: .inl i :: .inr (.inl (some q)) :: r => (match z_lr q with
        | some n => z_ix i n ∧ G (nx, lo, r, zu mm q (wr i).toNat v)
        | none => False)
      | _ => False) (kk : ∀ g, G g → zW p l e R s m args below meth c cells slots Q dC dI dA Hb ad k g) : zW p l e R s m args below meth c cells slots Q dC dI dA Hb ad k (pc, lo, st, mm) := by
  obtain ⟨hx, hb, hml, hown, hts, hK, hnm, hRf, hRl⟩ := C
  rintro ls vs H locs ⟨hlo, rfl, hH, hlc⟩
  show W p l e R s m args below meth c H locs cells slots Q (F0 m pc ls (st.map (zv ad)))
  obtain ⟨en, hd⟩ := q_dec (n := 1) hi rfl
  subst en
  split at h
  · rename_i v i q rr
    split at h
    · rename_i n hlr
      obtain ⟨hix, h⟩ := h
      obtain ⟨n0, hk, rfl, h0⟩ := z_lrS hlr
      obtain ⟨gb, g1⟩ := hH.2.2.2.1 _ _ h0 hk
      have g1 : H[ad q]? = some (vp_cell (dA .long) (n0, .inr (.inl (fun j => Int64.ofInt (mm q j))))) := g1
      obtain ⟨i1, i2, i3⟩ := z_ixS hix
      refine W.last hx hb g1 ((hK.1.2 4 _ rfl).1 n0 (fun j => .long (Int64.ofInt (mm q j)))) (fun q => by cases q) (by show ¬ (Int32.ofInt i < 0 ∨ (arrV _ _ _).slots.size ≤ _); rw [arrV_size]; exact i1) rfl rfl hd fun H1 e1 z1 o1 => ?_
      rw [q_updL, i3] at e1
      refine kk _ h ls _ H1 _ ⟨hlo, rfl, hH.set hk h0 z1 o1 (fun d hd => zu_ne hd) ?_, fun y hy => ?_⟩
      · show H1[ad q]? = _
        rw [e1]
        congr 5
        funext j
        show vp_updL _ _ _ j = Int64.ofInt (zu mm q (wr i).toNat v q j)
        rw [zu_at]
        unfold vp_updL
        by_cases e : j = (wr i).toNat
        · rw [if_pos e, if_pos e]
        · rw [if_neg e, if_neg e]
      · rcases List.mem_append.mp hy with hy | hy
        · exact hlc y hy
        · rw [List.mem_singleton.mp hy]
          exact gb
    · exact h.elim
  · exact h.elim
theorem zs_aald (C : q_Ctx p R s m args meth c dC dI dA Hb k) (hi : ins k pc = some (.aaload, nx, a1, a2, a3, z)) (h : match st with
      | .inl i :: .inr (.inl (some q)) :: r => (match z_rr q with
        | some cs => z_ix i (cs.length : Int) ∧ z_sp (wr i) (fun c => G (nx, lo, .inr (.inl (some c)) :: r, mm)) 0 cs
        | none => False)
      | _ => False) (kk : ∀ g, G g → zW p l e R s m args below meth c cells slots Q dC dI dA Hb ad k g) : zW p l e R s m args below meth c cells slots Q dC dI dA Hb ad k (pc, lo, st, mm) := by
  obtain ⟨hx, hb, hml, hown, hts, hK, hnm, hRf, hRl⟩ := C
  rintro ls vs H locs ⟨hlo, rfl, hH, hlc⟩
  show W p l e R s m args below meth c H locs cells slots Q (F0 m pc ls (st.map (zv ad)))
  obtain ⟨en, hd⟩ := q_dec (n := 1) hi rfl
  subst en
  split at h
  · rename_i i q rr
    split at h
    · rename_i cs hrr
      obtain ⟨hix, h⟩ := h
      obtain ⟨hk, h0⟩ := z_rrS hrr
      obtain ⟨gb, g, g1, g2⟩ := hH.2.2.2.1 _ _ h0 hk
      obtain ⟨i1, i2, i3⟩ := z_ixS hix
      have hc := List.getElem?_eq_getElem i2
      generalize cs[(wr i).toNat] = d at hc
      have hG := z_spS h hix.1 d (by rw [Int.sub_zero]; exact hc)
      refine q_ald hx hb (hK.1.2 5 _ rfl).1 g1 i1 hd ?_
      rw [i3, g2 _ _ hc]
      exact kk _ hG ls _ H locs ⟨hlo, rfl, hH, hlc⟩
    · exact h.elim
  · exact h.elim
theorem zs_alen (C : q_Ctx p R s m args meth c dC dI dA Hb k) (hi : ins k pc = some (.arraylength, nx, a1, a2, a3, z)) (h : match st with
      | .inr (.inl (some q)) :: r => (match z_ln mm q with
        | some n => G (nx, lo, .inl n :: r, mm)
        | none => False)
      | _ => False) (kk : ∀ g, G g → zW p l e R s m args below meth c cells slots Q dC dI dA Hb ad k g) : zW p l e R s m args below meth c cells slots Q dC dI dA Hb ad k (pc, lo, st, mm) := by
  obtain ⟨hx, hb, hml, hown, hts, hK, hnm, hRf, hRl⟩ := C
  rintro ls vs H locs ⟨hlo, rfl, hH, hlc⟩
  show W p l e R s m args below meth c H locs cells slots Q (F0 m pc ls (st.map (zv ad)))
  obtain ⟨en, hd⟩ := q_dec (n := 1) hi rfl
  subst en
  split at h
  · rename_i q rr
    split at h
    · rename_i n hn
      have fin : W p l e R s m args below meth c H locs cells slots Q (F0 m (pc + 1) ls (.int (Int32.ofInt n) :: rr.map (zv ad))) := kk _ h ls _ H locs ⟨hlo, rfl, hH, hlc⟩
      unfold z_ln at hn
      split at hn
      · rename_i ty n1 hrw
        cases hn
        by_cases h0 : q = 0
        · subst h0
          obtain ⟨rfl, rfl⟩ := z_rw0 hrw
          obtain ⟨⟨s2, s3⟩, scr, t1, t2, t3, t4⟩ := hH.2.2.1
          have t3 : ((scr.slots.size : Nat) : Int) = mm 110 0 := t3
          have hsc : Hb[dA .short]? = some scr := by
            rw [← s2, ← hH.1 _ s3]
            exact t1
          rw [← t3] at fin
          exact W.alen (ty := .int) hx hb t1 (hK.2.2.1.2 scr hsc) (q_ofn _) rfl rfl hd fin
        · obtain ⟨n0, hk, rfl⟩ := z_rwS hrw h0
          obtain ⟨gb, g1, g2⟩ := hH.2.2.2.1 _ _ h0 hk
          refine W.alen (ty := ty) hx hb g1 ?_ (by show (arrV _ _ _).slots.size.toInt32 = _; rw [arrV_size]; exact q_ofn _) rfl rfl hd fin
          rcases g2 with e | e | e | e
          · rw [e]; exact (hK.1.2 0 _ rfl).1 _ _
          · rw [e]; exact (hK.1.2 1 _ rfl).1 _ _
          · rw [e]; exact (hK.1.2 2 _ rfl).1 _ _
          · rw [e]; exact (hK.1.2 3 _ rfl).1 _ _
      · split at hn
        · rename_i n1 hlr
          cases hn
          obtain ⟨n0, hk, rfl, h0⟩ := z_lrS hlr
          obtain ⟨gb, g1⟩ := hH.2.2.2.1 _ _ h0 hk
          have g1 : H[ad q]? = some (vp_cell (dA .long) (n0, .inr (.inl (fun j => Int64.ofInt (mm q j))))) := g1
          exact W.alen (ty := .long) hx hb g1 ((hK.1.2 4 _ rfl).1 _ _) (by show (arrV _ _ _).slots.size.toInt32 = _; rw [arrV_size]; exact q_ofn _) rfl rfl hd fin
        · split at hn
          · rename_i cs hrr
            cases hn
            obtain ⟨hk, h0⟩ := z_rrS hrr
            obtain ⟨gb, g, g1, g2⟩ := hH.2.2.2.1 _ _ h0 hk
            exact W.alen (ty := .array .int) hx hb g1 ((hK.1.2 5 _ rfl).1 _ _) (by show (arrV _ _ _).slots.size.toInt32 = _; rw [arrV_size]; exact q_ofn _) rfl rfl hd fin
          · cases hn
    · exact h.elim
  · exact h.elim
theorem zs_copy {ci : Nat} (hlk : Cond.methodLink (mY k).cls ci arraycopyName ∈ tb) (C : q_Ctx p R s m args meth c dC dI dA Hb k) (hi : ins k pc = some (.invokestatic ci, nx, a1, a2, a3, z)) (h : z_copy mm st (fun m1 r => G (nx, lo, r, m1))) (kk : ∀ g, G g → zW p l e R s m args below meth c cells slots Q dC dI dA Hb ad k g) : zW p l e R s m args below meth c cells slots Q dC dI dA Hb ad k (pc, lo, st, mm) := by
  obtain ⟨hx, hb, hml, hown, hts, hK, hnm, hRf, hRl⟩ := C
  rintro ls vs H locs ⟨hlo, rfl, hH, hlc⟩
  show W p l e R s m args below meth c H locs cells slots Q (F0 m pc ls (st.map (zv ad)))
  obtain ⟨en, hd⟩ := q_dec (n := 3) hi rfl
  subst en
  unfold z_copy at h
  split at h
  · rename_i n dp q1 sp q0 rr
    cases hcc : Nat.beq q0 q1 || (Nat.beq q0 0 || (Nat.beq q1 0 || !(Nat.ble (z_cats rr) 8))) with
    | true =>
      rw [hcc] at h
      exact h.elim
    | false =>
      rw [hcc] at h
      simp only [cond_false] at h
      simp only [Bool.or_eq_false_iff, Bool.not_eq_false'] at hcc
      obtain ⟨hne, hq0, hq1, hcat⟩ := hcc
      have hcat : z_cats rr ≤ 8 := Nat.le_of_ble_eq_true hcat
      have h0 : q0 ≠ 0 := Nat.ne_of_beq_eq_false hq0
      have h1 : q1 ≠ 0 := Nat.ne_of_beq_eq_false hq1
      split at h
      · rename_i t0 n0 hr0
        split at h
        · rename_i t1 n1 hr1
          replace h := z_bif h
          obtain ⟨hty, ⟨c1, c2, c3, c4, c5⟩, h⟩ := h
          rw [Bool.and_eq_true] at hty
          obtain ⟨m0, hk0, rfl⟩ := z_rwS hr0 h0
          obtain ⟨m1, hk1, rfl⟩ := z_rwS hr1 h1
          obtain ⟨gb0, f1, -⟩ := hH.2.2.2.1 _ _ h0 hk0
          obtain ⟨gb1, g1, g2⟩ := hH.2.2.2.1 _ _ h1 hk1
          have e0 : t0 = .int := by rcases q_isT hty.1 with ⟨-, e⟩ | ⟨e, -⟩ | ⟨e, -⟩ | ⟨e, -⟩ <;> first | exact e | cases e
          have e1 : t1 = .int := by rcases q_isT hty.2 with ⟨-, e⟩ | ⟨e, -⟩ | ⟨e, -⟩ | ⟨e, -⟩ <;> first | exact e | cases e
          subst e0
          subst e1
          have cl : ∀ x : Int, (Int32.ofInt x).toNatClampNeg = (wr x).toNat := fun x => by
            show (Int32.ofInt x).toInt.toNat = _
            rw [wrE]
          have nl : ∀ x : Int, 0 ≤ wr x → ¬ Int32.ofInt x < 0 := fun x hx q => by
            have := Int32.lt_iff_toInt_lt.mp q
            rw [wrE] at this
            have e3 : (0 : Int32).toInt = 0 := rfl
            omega
          refine q_copy hx hb (by rw [hml]; exact hlo.1.symm) hown (hts _ hlk) (hts _ q_w_nat) (hts _ q_w_sta) (hts _ q_w_sys) (hK.1.2 0 _ rfl).1 f1 g1 (nl _ c1) (nl _ c2) (nl _ c3) (by rw [cl, cl]; omega) (by rw [cl, cl]; omega) (by omega) (by rw [z_catsS]; have : nativeFrameWords "java/lang/System" "arraycopy" 5 ≤ 100 := (by decide); omega) hd (fun H1 Lq hL z1 z2 z3 => ?_)
          rw [cl, cl, cl] at z3
          refine kk _ h ls _ H1 _ ⟨hlo, rfl, hH.set hk1 h1 z1 z2 (fun d hd => z_cp_ne hd) ⟨?_, g2⟩, fun y hy => ?_⟩
          · rw [z3]
            congr 4
            funext j
            dsimp only
            rw [z_cp_at]
            unfold va_cpy
            by_cases e : (wr dp).toNat ≤ j ∧ j < (wr dp).toNat + (wr n).toNat
            · rw [if_pos e, if_pos e]
            · rw [if_neg e, if_neg e]
          · rcases List.mem_append.mp hy with hy | hy
            · exact hlc y hy
            · rw [hL y hy]
              exact gb1
        · exact h.elim
      · exact h.elim
  · exact h.elim
end ZStep2
