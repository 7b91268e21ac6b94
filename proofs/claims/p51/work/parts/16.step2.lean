/-! Masks, tests, switches, the stack, fields, rows. -/
/-- what a test says -/
noncomputable def q_holds (c : ClassFile.Cond) (x y : Int32) : Prop := match c with
  | .eq => x = y
  | .ne => ¬ x = y
  | .lt => x < y
  | .ge => ¬ x < y
  | .gt => y < x
  | .le => ¬ y < x
section Cmp
variable {rs : List Int} {E : sE}
theorem s_eqAS {x : sF} {v z : Int} (hE : q_E rs E) (hx : s_val rs x = some v) (h : v = z) : q_E rs (s_eqA E x z) ∧ (s_eqA E x z).1 = E.1 := by
  subst h
  obtain ⟨a1, a2⟩ := s_geS hE (s_subS hx (s_numS v)) (by omega)
  obtain ⟨b1, b2⟩ := s_geS a1 (s_subS (s_numS v) hx) (by omega)
  exact ⟨b1, b2.trans a2⟩
theorem q_notL {l : Option (List (Bool × sE))} {l2 : List (Bool × sE)} {P : Prop} {P2 : sE → Prop} (h2 : s_not l = some l2) (h : ∀ l1, l = some l1 → ∃ q ∈ l1, (q.1 = true ↔ P) ∧ P2 q.2) : ∃ q ∈ l2, (q.1 = true ↔ ¬ P) ∧ P2 q.2 := by
  unfold s_not at h2
  split at h2
  · cases h2
  · rename_i l1
    cases h2
    obtain ⟨q, g1, g2, g3⟩ := h l1 rfl
    refine ⟨(!q.1, q.2), List.mem_map.mpr ⟨q, g1, rfl⟩, ?_, g3⟩
    obtain ⟨q1, q2⟩ := q
    cases q1
    · simp at g2 ⊢
      exact g2
    · simp at g2 ⊢
      exact g2
theorem q_ltL {a b : sF} {x y : Int32} {l : List (Bool × sE)} (hE : q_E rs E) (ha : s_val rs a = some x.toInt) (hb : s_val rs b = some y.toInt) (h : s_lt E a b = some l) : ∃ q ∈ l, (q.1 = true ↔ x < y) ∧ q_E rs q.2 ∧ q.2.1 = E.1 := by
  obtain ⟨q, h1, h2, h3⟩ := s_ltS hE ha hb h
  exact ⟨q, h1, h2.trans Int32.lt_iff_toInt_lt.symm, h3⟩
theorem q_eqL {a b : sF} {x y : Int32} {l : List (Bool × sE)} (hE : q_E rs E) (ha : s_val rs a = some x.toInt) (hb : s_val rs b = some y.toInt) (h : s_eq E a b = some l) : ∃ q ∈ l, (q.1 = true ↔ x = y) ∧ q_E rs q.2 ∧ q.2.1 = E.1 := by
  obtain ⟨q, h1, h2, h3⟩ := s_eqS hE ha hb h
  exact ⟨q, h1, h2.trans Int32.toInt_inj, h3⟩
theorem q_cmp {c : ClassFile.Cond} {a b : sF} {x y : Int32} {l : List (Bool × sE)} (hE : q_E rs E) (ha : s_val rs a = some x.toInt) (hb : s_val rs b = some y.toInt) (h : s_cmp c E a b = some l) : ∃ q ∈ l, (q.1 = true ↔ q_holds c x y) ∧ q_E rs q.2 ∧ q.2.1 = E.1 := by
  cases c
  · exact q_eqL hE ha hb h
  · exact q_notL (P2 := fun z => q_E rs z ∧ z.1 = E.1) h (fun l1 h1 => q_eqL hE ha hb h1)
  · exact q_ltL hE ha hb h
  · exact q_notL (P2 := fun z => q_E rs z ∧ z.1 = E.1) h (fun l1 h1 => q_ltL hE ha hb h1)
  · exact q_ltL hE hb ha h
  · exact q_notL (P2 := fun z => q_E rs z ∧ z.1 = E.1) h (fun l1 h1 => q_ltL hE hb ha h1)
theorem s_flsS {e : sE} : ∀ {l : List (Bool × sE)}, (false, e) ∈ l → e ∈ s_fls l
  | [], h => nomatch h
  | q :: r, h => by
    unfold s_fls
    rcases List.mem_cons.mp h with h | h
    · rw [← h]
      exact List.mem_cons_self
    · cases q.1 with
      | true => exact s_flsS h
      | false => exact List.mem_cons_of_mem _ (s_flsS h)
theorem s_nesS {v : sF} {x z : Int} (hE : q_E rs E) (hv : s_val rs v = some x) (hne : x ≠ z) : ∃ e ∈ s_nes E v z, q_E rs e ∧ e.1 = E.1 := by
  unfold s_nes
  split
  · exact ⟨E, List.mem_singleton.mpr rfl, hE, rfl⟩
  · rename_i l hl
    obtain ⟨⟨q1, q2⟩, g1, g2, g3, g4⟩ := s_eqS hE hv (s_numS z) hl
    cases q1 with
    | true => exact absurd (g2.mp rfl) hne
    | false => exact ⟨q2, s_flsS g1, g3, g4⟩
end Cmp

theorem s_maskS {x y : Int32} (hy : y.toInt = 255) (h1 : -256 ≤ x.toInt) (h2 : x.toInt ≤ 255) : (x &&& y).toInt = (if x.toInt < 0 then x.toInt + 256 else x.toInt) := by
  have ey : y = 255 := Int32.toInt_inj.mp hy
  subst ey
  have eN : (x &&& 255).toBitVec.toNat = x.toBitVec.toNat % 256 := by
    rw [Int32.toBitVec_and, BitVec.toNat_and]
    exact Nat.and_two_pow_sub_one_eq_mod x.toBitVec.toNat 8
  have e := s_ofnat (z := x &&& 255) (by rw [eN]; omega)
  rw [eN] at e
  have ex : x.toInt = x.toBitVec.toInt := rfl
  rw [BitVec.toInt_eq_toNat_cond] at ex
  have hl := x.toBitVec.isLt
  rw [e]
  split at ex <;> split <;> omega
section Step2
variable {p : Program} {l : Launch} {e : Env} {R : Room} {s : State} {m : MethodId} {args : Array Value} {below : List Frame} {meth : Method} {c : Code} {H : Heap} {locs : List Loc} {cells slots : Nat} {Q : State → Prop}
variable {dC : Nat → ClassId} {dI : Nat → Nat → Nat} {dA : FieldType → ClassId} {rs : List Int} {ad : Nat → Nat} {Hb H0 : Heap} {k pc nx a1 a2 a3 : Nat} {z : Int} {lo : sL} {st : List sA} {E : sE} {h : sH} {ls : Array Slot} {vs : List Value} {l0 : List (Nat × Nat × sG)}
theorem q_iand  (C : q_Ctx p R s m args meth c dC dI dA Hb k) (hi : ins k pc = some (.iand, nx, a1, a2, a3, z)) (hs : (s_andI nx lo st E h : Option sS) = some (.inl l0)) (F : q_Fr dC dI dA rs ad Hb H0 (mL k) (pc, lo, st, E, h) ls vs H locs) (kk : q_KK p l e R s m args below meth c cells slots Q dC dI dA rs ad Hb H0 k l0) : W p l e R s m args below meth c H locs cells slots Q (F0 m pc ls vs) := by
  obtain ⟨hx, hb, hml, hown, hts, hK, hnm, hRf, hRl⟩ := C
  obtain ⟨hlo, hst, hE, hG, hlc⟩ := F
  obtain ⟨en, hd⟩ := q_dec (n := 1) hi rfl
  subst en
  unfold s_andI at hs
  split at hs
  · rename_i b a rr
    obtain ⟨w, vs', rfl, ⟨y, rfl, hy⟩, w2, vs2, rfl, ⟨x, rfl, hxx⟩, hst'⟩ := hst
    cases hm : s_mask E a b with
    | false =>
      rw [hm] at hs
      exact lv_iand hx hb hd (q_gox hs kk (s_sand2R hE hxx hy) hlo hst' hG hlc)
    | true =>
      rw [hm] at hs
      simp only [cond_true] at hs
      simp only [s_mask, Bool.and_eq_true] at hm
      obtain ⟨m1, m2⟩ := hm
      have hy2 : y.toInt = 255 := by
        split at m1
        · rename_i zz hz
          rw [s_litS hE hy hz]
          exact s_ie_iff.mp m1
        · cases m1
      obtain ⟨i1, i2⟩ := s_inIS hE hxx m2
      have hv := s_maskS hy2 i1 i2
      split at hs
      · cases hs
      · rename_i lq hq
        cases hs
        obtain ⟨⟨q1, q2⟩, g1, g2, g3, g4⟩ := s_ltS hE hxx (s_numS 0) hq
        refine lv_iand hx hb hd (kk _ (List.mem_map.mpr ⟨_, g1, rfl⟩) [] ls _ H locs ?_)
        rw [List.append_nil]
        refine ⟨hlo, ⟨_, _, rfl, ⟨_, rfl, ?_⟩, hst'⟩, g3, hG.env g4, hlc⟩
        cases q1 with
        | true =>
          rw [hv, if_pos (g2.mp rfl)]
          exact s_addS hxx (s_numS 256)
        | false =>
          rw [hv, if_neg (fun q => by have := g2.mpr q; cases this)]
          exact hxx
  · cases hs
theorem q_br {P : Prop} {t : Nat} {lq : Option (List (Bool × sE))} {rr : List sA} {vr : List Value} (hs : s_br t nx lo rr h lq = some (.inl l0)) (hq : ∀ l, lq = some l → ∃ q ∈ l, (q.1 = true ↔ P) ∧ q_E rs q.2 ∧ q.2.1 = E.1) (hlo : q_Lo rs ad lo ls (mL k)) (hst : q_L rs ad rr vr) (hG : q_G dC dI dA rs ad Hb H0 E h H) (hlc : ∀ q ∈ locs, Hb.size ≤ q.base) (kk : q_KK p l e R s m args below meth c cells slots Q dC dI dA rs ad Hb H0 k l0) :
    (P → W p l e R s m args below meth c H locs cells slots Q (F0 m t ls vr)) ∧ (¬ P → W p l e R s m args below meth c H locs cells slots Q (F0 m nx ls vr)) := by
  unfold s_br at hs
  split at hs
  · cases hs
  · rename_i lq
    cases hs
    obtain ⟨q, h1, h2, h3, h4⟩ := hq lq rfl
    have K := kk _ (List.mem_map.mpr ⟨q, h1, rfl⟩) [] ls vr H locs (by rw [List.append_nil]; exact ⟨hlo, hst, h3, hG.env h4, hlc⟩)
    obtain ⟨q1, q2⟩ := q
    cases q1 with
    | true => exact ⟨fun _ => K, fun hp => absurd (h2.mp rfl) hp⟩
    | false => exact ⟨fun hp => absurd (h2.mpr hp) (by simp), fun _ => K⟩
theorem q_holdeq {x y : Int32} (q : x = y) : q_holds .eq x y := q
theorem q_nholdeq {x y : Int32} (q : ¬ (x = y)) : ¬ q_holds .eq x y := q
theorem q_holdne {x y : Int32} (q : ¬ x = y) : q_holds .ne x y := q
theorem q_nholdne {x y : Int32} (q : x = y) : ¬ q_holds .ne x y := fun z => z q
theorem q_holdlt {x y : Int32} (q : x < y) : q_holds .lt x y := q
theorem q_nholdlt {x y : Int32} (q : ¬ (x < y)) : ¬ q_holds .lt x y := q
theorem q_holdge {x y : Int32} (q : y ≤ x) : q_holds .ge x y := Int32.not_lt.mpr q
theorem q_nholdge {x y : Int32} (q : ¬ (y ≤ x)) : ¬ q_holds .ge x y := fun z => q (Int32.not_lt.mp z)
theorem q_holdgt {x y : Int32} (q : y < x) : q_holds .gt x y := q
theorem q_nholdgt {x y : Int32} (q : ¬ (y < x)) : ¬ q_holds .gt x y := q
theorem q_holdle {x y : Int32} (q : x ≤ y) : q_holds .le x y := Int32.not_lt.mpr q
theorem q_nholdle {x y : Int32} (q : ¬ (x ≤ y)) : ¬ q_holds .le x y := fun z => q (Int32.not_lt.mp z)
theorem q_ifc {cc : ClassFile.Cond} {cz : Int} (C : q_Ctx p R s m args meth c dC dI dA Hb k) (hi : ins k pc = some (.ifCond cc cz, nx, a1, a2, a3, z)) (hs : ((match st with
      | .inl x :: r => s_br a1 nx lo r h (s_cmp cc E x (s_num 0))
      | _ => none) : Option sS) = some (.inl l0)) (F : q_Fr dC dI dA rs ad Hb H0 (mL k) (pc, lo, st, E, h) ls vs H locs) (kk : q_KK p l e R s m args below meth c cells slots Q dC dI dA rs ad Hb H0 k l0) : W p l e R s m args below meth c H locs cells slots Q (F0 m pc ls vs) := by
  obtain ⟨hx, hb, hml, hown, hts, hK, hnm, hRf, hRl⟩ := C
  obtain ⟨hlo, hst, hE, hG, hlc⟩ := F
  obtain ⟨en, hd⟩ := q_dec (n := 3) hi rfl
  have hc := (q_rowI hi).2.2.1
  simp only [c_I, Bool.and_eq_true, decide_eq_true_eq] at hc
  have ht := hc.1
  subst en
  split at hs
  · obtain ⟨w, vs', rfl, ⟨x, rfl, hxx⟩, hst'⟩ := hst
    have B := q_br (H := H) (locs := locs) (ls := ls) hs (fun l1 h1 => q_cmp (b := s_num 0) (y := 0) hE hxx (s_numS 0) h1) hlo hst' hG hlc kk
    cases cc with
    | eq => exact lv_if_eq hx hb hd ht (fun q => B.1 (q_holdeq q)) (fun q => B.2 (q_nholdeq q))
    | ne => exact lv_if_ne hx hb hd ht (fun q => B.1 (q_holdne q)) (fun q => B.2 (q_nholdne q))
    | lt => exact lv_if_lt hx hb hd ht (fun q => B.1 (q_holdlt q)) (fun q => B.2 (q_nholdlt q))
    | ge => exact lv_if_ge hx hb hd ht (fun q => B.1 (q_holdge q)) (fun q => B.2 (q_nholdge q))
    | gt => exact lv_if_gt hx hb hd ht (fun q => B.1 (q_holdgt q)) (fun q => B.2 (q_nholdgt q))
    | le => exact lv_if_le hx hb hd ht (fun q => B.1 (q_holdle q)) (fun q => B.2 (q_nholdle q))
  · cases hs
theorem q_icmp {cc : ClassFile.Cond} {cz : Int} (C : q_Ctx p R s m args meth c dC dI dA Hb k) (hi : ins k pc = some (.if_icmp cc cz, nx, a1, a2, a3, z)) (hs : ((match st with
      | .inl y :: .inl x :: r => s_br a1 nx lo r h (s_cmp cc E x y)
      | _ => none) : Option sS) = some (.inl l0)) (F : q_Fr dC dI dA rs ad Hb H0 (mL k) (pc, lo, st, E, h) ls vs H locs) (kk : q_KK p l e R s m args below meth c cells slots Q dC dI dA rs ad Hb H0 k l0) : W p l e R s m args below meth c H locs cells slots Q (F0 m pc ls vs) := by
  obtain ⟨hx, hb, hml, hown, hts, hK, hnm, hRf, hRl⟩ := C
  obtain ⟨hlo, hst, hE, hG, hlc⟩ := F
  obtain ⟨en, hd⟩ := q_dec (n := 3) hi rfl
  have hc := (q_rowI hi).2.2.1
  simp only [c_I, Bool.and_eq_true, decide_eq_true_eq] at hc
  have ht := hc.1
  subst en
  split at hs
  · obtain ⟨w, vs', rfl, ⟨y, rfl, hy⟩, w2, vs2, rfl, ⟨x, rfl, hxx⟩, hst'⟩ := hst
    have B := q_br (H := H) (locs := locs) (ls := ls) hs (fun l1 h1 => q_cmp hE hxx hy h1) hlo hst' hG hlc kk
    cases cc with
    | eq => exact lv_icmp_eq hx hb hd ht (fun q => B.1 (q_holdeq q)) (fun q => B.2 (q_nholdeq q))
    | ne => exact lv_icmp_ne hx hb hd ht (fun q => B.1 (q_holdne q)) (fun q => B.2 (q_nholdne q))
    | lt => exact lv_icmp_lt hx hb hd ht (fun q => B.1 (q_holdlt q)) (fun q => B.2 (q_nholdlt q))
    | ge => exact lv_icmp_ge hx hb hd ht (fun q => B.1 (q_holdge q)) (fun q => B.2 (q_nholdge q))
    | gt => exact lv_icmp_gt hx hb hd ht (fun q => B.1 (q_holdgt q)) (fun q => B.2 (q_nholdgt q))
    | le => exact lv_icmp_le hx hb hd ht (fun q => B.1 (q_holdle q)) (fun q => B.2 (q_nholdle q))
  · cases hs
theorem q_goto {cz : Int} (C : q_Ctx p R s m args meth c dC dI dA Hb k) (hi : ins k pc = some (.goto cz, nx, a1, a2, a3, z)) (hs : (s_go a1 lo st E h : Option sS) = some (.inl l0)) (F : q_Fr dC dI dA rs ad Hb H0 (mL k) (pc, lo, st, E, h) ls vs H locs) (kk : q_KK p l e R s m args below meth c cells slots Q dC dI dA rs ad Hb H0 k l0) : W p l e R s m args below meth c H locs cells slots Q (F0 m pc ls vs) := by
  obtain ⟨hx, hb, hml, hown, hts, hK, hnm, hRf, hRl⟩ := C
  obtain ⟨hlo, hst, hE, hG, hlc⟩ := F
  obtain ⟨en, hd⟩ := q_dec (n := 3) hi rfl
  have hc := (q_rowI hi).2.2.1
  simp only [c_I, Bool.and_eq_true, decide_eq_true_eq] at hc
  exact lv_goto hx hb hd hc.1 (q_go hs kk ⟨hlo, hst, hE, hG, hlc⟩)
theorem q_lcmp  (C : q_Ctx p R s m args meth c dC dI dA Hb k) (hi : ins k pc = some (.lcmp, nx, a1, a2, a3, z)) (hs : ((match st with
      | .inr (.inr (.inl _)) :: .inr (.inr (.inl _)) :: r => s_gox nx lo r (s_new E (-1, 1)) h
      | _ => none) : Option sS) = some (.inl l0)) (F : q_Fr dC dI dA rs ad Hb H0 (mL k) (pc, lo, st, E, h) ls vs H locs) (kk : q_KK p l e R s m args below meth c cells slots Q dC dI dA rs ad Hb H0 k l0) : W p l e R s m args below meth c H locs cells slots Q (F0 m pc ls vs) := by
  obtain ⟨hx, hb, hml, hown, hts, hK, hnm, hRf, hRl⟩ := C
  obtain ⟨hlo, hst, hE, hG, hlc⟩ := F
  obtain ⟨en, hd⟩ := q_dec (n := 1) hi rfl
  subst en
  split at hs
  · obtain ⟨w, vs', rfl, ⟨y, rfl, -⟩, w2, vs2, rfl, ⟨x, rfl, -⟩, hst'⟩ := hst
    have hc : -1 ≤ (lg_cmp x y).toInt ∧ (lg_cmp x y).toInt ≤ 1 := by
      unfold lg_cmp
      split
      · decide
      · split <;> decide
    exact W.lcmp hx hb hd (q_gox hs kk (s_newR hE hc.1 hc.2) hlo hst' hG hlc)
  · cases hs
theorem q_dup  (C : q_Ctx p R s m args meth c dC dI dA Hb k) (hi : ins k pc = some (.dup, nx, a1, a2, a3, z)) (hs : ((match st with
      | a :: r => bif Nat.beq (s_cat a) 1 then s_go nx lo (a :: a :: r) E h else none
      | _ => none) : Option sS) = some (.inl l0)) (F : q_Fr dC dI dA rs ad Hb H0 (mL k) (pc, lo, st, E, h) ls vs H locs) (kk : q_KK p l e R s m args below meth c cells slots Q dC dI dA rs ad Hb H0 k l0) : W p l e R s m args below meth c H locs cells slots Q (F0 m pc ls vs) := by
  obtain ⟨hx, hb, hml, hown, hts, hK, hnm, hRf, hRl⟩ := C
  obtain ⟨hlo, hst, hE, hG, hlc⟩ := F
  obtain ⟨en, hd⟩ := q_dec (n := 1) hi rfl
  subst en
  split at hs
  · obtain ⟨w, vs', rfl, hw, hst'⟩ := hst
    rename_i a rr
    cases h1 : Nat.beq (s_cat a) 1 with
    | false => rw [h1] at hs; cases hs
    | true =>
      rw [h1] at hs
      exact lv_dup hx hb hd ((q_cat hw).trans (Nat.eq_of_beq_eq_true h1)) (q_go hs kk ⟨hlo, ⟨_, _, rfl, hw, _, _, rfl, hw, hst'⟩, hE, hG, hlc⟩)
  · cases hs
theorem q_pop  (C : q_Ctx p R s m args meth c dC dI dA Hb k) (hi : ins k pc = some (.pop, nx, a1, a2, a3, z)) (hs : ((match st with
      | a :: r => bif Nat.beq (s_cat a) 1 then s_go nx lo (r) E h else none
      | _ => none) : Option sS) = some (.inl l0)) (F : q_Fr dC dI dA rs ad Hb H0 (mL k) (pc, lo, st, E, h) ls vs H locs) (kk : q_KK p l e R s m args below meth c cells slots Q dC dI dA rs ad Hb H0 k l0) : W p l e R s m args below meth c H locs cells slots Q (F0 m pc ls vs) := by
  obtain ⟨hx, hb, hml, hown, hts, hK, hnm, hRf, hRl⟩ := C
  obtain ⟨hlo, hst, hE, hG, hlc⟩ := F
  obtain ⟨en, hd⟩ := q_dec (n := 1) hi rfl
  subst en
  split at hs
  · obtain ⟨w, vs', rfl, hw, hst'⟩ := hst
    rename_i a rr
    cases h1 : Nat.beq (s_cat a) 1 with
    | false => rw [h1] at hs; cases hs
    | true =>
      rw [h1] at hs
      exact lv_pop hx hb hd ((q_cat hw).trans (Nat.eq_of_beq_eq_true h1)) (q_go hs kk ⟨hlo, hst', hE, hG, hlc⟩)
  · cases hs
theorem q_dup_x1  (C : q_Ctx p R s m args meth c dC dI dA Hb k) (hi : ins k pc = some (.dup_x1, nx, a1, a2, a3, z)) (hs : ((match st with
      | a :: b :: r => bif Nat.beq (s_cat a) 1 && Nat.beq (s_cat b) 1 then s_go nx lo (a :: b :: a :: r) E h else none
      | _ => none) : Option sS) = some (.inl l0)) (F : q_Fr dC dI dA rs ad Hb H0 (mL k) (pc, lo, st, E, h) ls vs H locs) (kk : q_KK p l e R s m args below meth c cells slots Q dC dI dA rs ad Hb H0 k l0) : W p l e R s m args below meth c H locs cells slots Q (F0 m pc ls vs) := by
  obtain ⟨hx, hb, hml, hown, hts, hK, hnm, hRf, hRl⟩ := C
  obtain ⟨hlo, hst, hE, hG, hlc⟩ := F
  obtain ⟨en, hd⟩ := q_dec (n := 1) hi rfl
  subst en
  split at hs
  · obtain ⟨w, vs', rfl, hw, w2, vs2, rfl, hw2, hst'⟩ := hst
    rename_i a d rr
    cases h1 : Nat.beq (s_cat a) 1 with
    | false => rw [h1] at hs; cases hs
    | true =>
      cases h2 : Nat.beq (s_cat d) 1 with
      | false => rw [h1, h2] at hs; cases hs
      | true =>
        rw [h1, h2] at hs
        exact lv_dup_x1 hx hb hd ((q_cat hw).trans (Nat.eq_of_beq_eq_true h1)) ((q_cat hw2).trans (Nat.eq_of_beq_eq_true h2)) (q_go hs kk ⟨hlo, ⟨_, _, rfl, hw, _, _, rfl, hw2, _, _, rfl, hw, hst'⟩, hE, hG, hlc⟩)
  · cases hs
theorem q_dup2  (C : q_Ctx p R s m args meth c dC dI dA Hb k) (hi : ins k pc = some (.dup2, nx, a1, a2, a3, z)) (hs : ((match st with
      | a :: b :: r => bif Nat.beq (s_cat a) 1 && Nat.beq (s_cat b) 1 then s_go nx lo (a :: b :: a :: b :: r) E h else none
      | _ => none) : Option sS) = some (.inl l0)) (F : q_Fr dC dI dA rs ad Hb H0 (mL k) (pc, lo, st, E, h) ls vs H locs) (kk : q_KK p l e R s m args below meth c cells slots Q dC dI dA rs ad Hb H0 k l0) : W p l e R s m args below meth c H locs cells slots Q (F0 m pc ls vs) := by
  obtain ⟨hx, hb, hml, hown, hts, hK, hnm, hRf, hRl⟩ := C
  obtain ⟨hlo, hst, hE, hG, hlc⟩ := F
  obtain ⟨en, hd⟩ := q_dec (n := 1) hi rfl
  subst en
  split at hs
  · obtain ⟨w, vs', rfl, hw, w2, vs2, rfl, hw2, hst'⟩ := hst
    rename_i a d rr
    cases h1 : Nat.beq (s_cat a) 1 with
    | false => rw [h1] at hs; cases hs
    | true =>
      cases h2 : Nat.beq (s_cat d) 1 with
      | false => rw [h1, h2] at hs; cases hs
      | true =>
        rw [h1, h2] at hs
        exact lv_dup2_11 hx hb hd ((q_cat hw).trans (Nat.eq_of_beq_eq_true h1)) ((q_cat hw2).trans (Nat.eq_of_beq_eq_true h2)) (q_go hs kk ⟨hlo, ⟨_, _, rfl, hw, _, _, rfl, hw2, _, _, rfl, hw, _, _, rfl, hw2, hst'⟩, hE, hG, hlc⟩)
  · cases hs
end Step2
