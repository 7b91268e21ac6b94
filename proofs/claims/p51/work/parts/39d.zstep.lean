/-! Each step of Z is a step of the true machine. -/
noncomputable def zF (dC : Nat → ClassId) (dI : Nat → Nat → Nat) (dA : FieldType → ClassId) (Hb : Heap) (ad : Nat → Nat) (nL : Nat) (g : zG) (ls : Array Slot) (vs : List Value) (H : Heap) (locs : List Loc) : Prop :=
  lv_has ls nL (z_lm ad g.2.1) ∧ vs = g.2.2.1.map (zv ad) ∧ zH dC dI dA Hb ad g.2.2.2 H ∧ ∀ q ∈ locs, Hb.size ≤ q.base
noncomputable def zW (p : Program) (l : Launch) (e : Env) (R : Room) (s : State) (m : MethodId) (args : Array Value) (below : List Frame) (meth : Method) (c : Code) (cells slots : Nat) (Q : State → Prop) (dC : Nat → ClassId) (dI : Nat → Nat → Nat) (dA : FieldType → ClassId) (Hb : Heap) (ad : Nat → Nat) (k : Nat) (g : zG) : Prop :=
  ∀ (ls : Array Slot) (vs : List Value) (H : Heap) (locs : List Loc), zF dC dI dA Hb ad (mL k) g ls vs H locs → W p l e R s m args below meth c H locs cells slots Q (F0 m g.1 ls vs)
section ZStep
variable {p : Program} {l : Launch} {e : Env} {R : Room} {s : State} {m : MethodId} {args : Array Value} {below : List Frame} {meth : Method} {c : Code} {cells slots : Nat} {Q : State → Prop}
variable {dC : Nat → ClassId} {dI : Nat → Nat → Nat} {dA : FieldType → ClassId} {ad : Nat → Nat} {Hb : Heap} {k pc nx a1 a2 a3 : Nat} {z : Int} {lo : zL} {st : List zA} {mm : zM} {G : zG → Prop}
theorem zs_iconst {cz : Int} (C : q_Ctx p R s m args meth c dC dI dA Hb k) (hi : ins k pc = some (.iconst cz, nx, a1, a2, a3, z)) (h : G (nx, lo, .inl cz :: st, mm)) (kk : ∀ g, G g → zW p l e R s m args below meth c cells slots Q dC dI dA Hb ad k g) : zW p l e R s m args below meth c cells slots Q dC dI dA Hb ad k (pc, lo, st, mm) := by
  obtain ⟨hx, hb, hml, hown, hts, hK, hnm, hRf, hRl⟩ := C
  rintro ls vs H locs ⟨hlo, rfl, hH, hlc⟩
  show W p l e R s m args below meth c H locs cells slots Q (F0 m pc ls (st.map (zv ad)))
  obtain ⟨en, hd⟩ := q_dec (n := 1) hi rfl
  subst en
  exact lv_iconst hx hb hd rfl (kk _ h ls _ H locs ⟨hlo, rfl, hH, hlc⟩)
theorem zs_bipush {cz : Int} (C : q_Ctx p R s m args meth c dC dI dA Hb k) (hi : ins k pc = some (.bipush cz, nx, a1, a2, a3, z)) (h : bif s_le (-128) cz && s_le cz 127 then G (nx, lo, .inl cz :: st, mm) else False) (kk : ∀ g, G g → zW p l e R s m args below meth c cells slots Q dC dI dA Hb ad k g) : zW p l e R s m args below meth c cells slots Q dC dI dA Hb ad k (pc, lo, st, mm) := by
  obtain ⟨hx, hb, hml, hown, hts, hK, hnm, hRf, hRl⟩ := C
  rintro ls vs H locs ⟨hlo, rfl, hH, hlc⟩
  show W p l e R s m args below meth c H locs cells slots Q (F0 m pc ls (st.map (zv ad)))
  obtain ⟨en, hd⟩ := q_dec (n := 2) hi rfl
  subst en
  obtain ⟨h1, h⟩ := z_bif h
  rw [Bool.and_eq_true] at h1
  exact lv_bipush hx hb hd (z_bip (s_le_iff.mp h1.1) (s_le_iff.mp h1.2)) (kk _ h ls _ H locs ⟨hlo, rfl, hH, hlc⟩)
theorem zs_sipush {cz : Int} (C : q_Ctx p R s m args meth c dC dI dA Hb k) (hi : ins k pc = some (.sipush cz, nx, a1, a2, a3, z)) (h : bif s_le (-32768) cz && s_le cz 32767 then G (nx, lo, .inl cz :: st, mm) else False) (kk : ∀ g, G g → zW p l e R s m args below meth c cells slots Q dC dI dA Hb ad k g) : zW p l e R s m args below meth c cells slots Q dC dI dA Hb ad k (pc, lo, st, mm) := by
  obtain ⟨hx, hb, hml, hown, hts, hK, hnm, hRf, hRl⟩ := C
  rintro ls vs H locs ⟨hlo, rfl, hH, hlc⟩
  show W p l e R s m args below meth c H locs cells slots Q (F0 m pc ls (st.map (zv ad)))
  obtain ⟨en, hd⟩ := q_dec (n := 3) hi rfl
  subst en
  obtain ⟨h1, h⟩ := z_bif h
  rw [Bool.and_eq_true] at h1
  exact lv_sipush hx hb hd (z_sip (s_le_iff.mp h1.1) (s_le_iff.mp h1.2)) (kk _ h ls _ H locs ⟨hlo, rfl, hH, hlc⟩)
theorem zs_ldc {ci : Nat} (C : q_Ctx p R s m args meth c dC dI dA Hb k) (hi : ins k pc = some (.ldc ci, nx, a1, a2, a3, z)) (h : bif Nat.beq a1 0 then G (nx, lo, .inl z :: st, mm) else False) (kk : ∀ g, G g → zW p l e R s m args below meth c cells slots Q dC dI dA Hb ad k g) : zW p l e R s m args below meth c cells slots Q dC dI dA Hb ad k (pc, lo, st, mm) := by
  obtain ⟨hx, hb, hml, hown, hts, hK, hnm, hRf, hRl⟩ := C
  rintro ls vs H locs ⟨hlo, rfl, hH, hlc⟩
  show W p l e R s m args below meth c H locs cells slots Q (F0 m pc ls (st.map (zv ad)))
  obtain ⟨en, hd⟩ := q_dec (n := 2) hi rfl
  subst en
  obtain ⟨ha, h⟩ := z_bif h
  have hc := (q_rowI hi).2.2.1
  simp only [c_I, ha, Bool.not_true, Bool.false_or] at hc
  exact lv_ldc hx hb hown (hts _ (wAt_mem hc)) hd (kk _ h ls _ H locs ⟨hlo, rfl, hH, hlc⟩)
theorem zs_ldcw {ci : Nat} (C : q_Ctx p R s m args meth c dC dI dA Hb k) (hi : ins k pc = some (.ldc_w ci, nx, a1, a2, a3, z)) (h : bif Nat.beq a1 0 then G (nx, lo, .inl z :: st, mm) else False) (kk : ∀ g, G g → zW p l e R s m args below meth c cells slots Q dC dI dA Hb ad k g) : zW p l e R s m args below meth c cells slots Q dC dI dA Hb ad k (pc, lo, st, mm) := by
  obtain ⟨hx, hb, hml, hown, hts, hK, hnm, hRf, hRl⟩ := C
  rintro ls vs H locs ⟨hlo, rfl, hH, hlc⟩
  show W p l e R s m args below meth c H locs cells slots Q (F0 m pc ls (st.map (zv ad)))
  obtain ⟨en, hd⟩ := q_dec (n := 3) hi rfl
  subst en
  obtain ⟨ha, h⟩ := z_bif h
  have hc := (q_rowI hi).2.2.1
  simp only [c_I, ha, Bool.not_true, Bool.false_or] at hc
  exact lv_ldcw hx hb hown (hts _ (wAt_mem hc)) hd (kk _ h ls _ H locs ⟨hlo, rfl, hH, hlc⟩)
theorem zs_ldc2 {ci : Nat} (C : q_Ctx p R s m args meth c dC dI dA Hb k) (hi : ins k pc = some (.ldc2_w ci, nx, a1, a2, a3, z)) (h : bif Nat.beq a1 0 && Nat.beq nx (pc + 3) then G (nx, lo, .inr (.inr z) :: st, mm) else False) (kk : ∀ g, G g → zW p l e R s m args below meth c cells slots Q dC dI dA Hb ad k g) : zW p l e R s m args below meth c cells slots Q dC dI dA Hb ad k (pc, lo, st, mm) := by
  obtain ⟨hx, hb, hml, hown, hts, hK, hnm, hRf, hRl⟩ := C
  rintro ls vs H locs ⟨hlo, rfl, hH, hlc⟩
  show W p l e R s m args below meth c H locs cells slots Q (F0 m pc ls (st.map (zv ad)))
  obtain ⟨ha, h⟩ := z_bif h
  rw [Bool.and_eq_true] at ha
  have hc := (q_rowI hi).2.2.1
  simp only [c_I, ha.1, Bool.not_true, Bool.false_or] at hc
  have en := Nat.eq_of_beq_eq_true ha.2
  subst en
  have hd := q_dec2 (n := 3) hi rfl
  exact lv_ldc2 hx hb hown (hts _ (wAt_mem hc)) hd (kk _ h ls _ H locs ⟨hlo, rfl, hH, hlc⟩)
theorem zs_lconst {cf : Fin 2} (C : q_Ctx p R s m args meth c dC dI dA Hb k) (hi : ins k pc = some (.lconst cf, nx, a1, a2, a3, z)) (h : G (nx, lo, .inr (.inr ((cf.val : Nat) : Int)) :: st, mm)) (kk : ∀ g, G g → zW p l e R s m args below meth c cells slots Q dC dI dA Hb ad k g) : zW p l e R s m args below meth c cells slots Q dC dI dA Hb ad k (pc, lo, st, mm) := by
  obtain ⟨hx, hb, hml, hown, hts, hK, hnm, hRf, hRl⟩ := C
  rintro ls vs H locs ⟨hlo, rfl, hH, hlc⟩
  show W p l e R s m args below meth c H locs cells slots Q (F0 m pc ls (st.map (zv ad)))
  obtain ⟨en, hd⟩ := q_dec (n := 1) hi rfl
  subst en
  have e0 : Int64.ofNat (cf : Nat) = Int64.ofInt ((cf.val : Nat) : Int) := Int64.ofInt_eq_ofNat.symm
  exact lv_lconst hx hb hd e0 (kk _ h ls _ H locs ⟨hlo, rfl, hH, hlc⟩)
theorem zs_iload_n {ci : Fin 4} (C : q_Ctx p R s m args meth c dC dI dA Hb k) (hi : ins k pc = some (.iload_n ci, nx, a1, a2, a3, z)) (h : z_ld lo ci.val 0 (fun a => G (nx, lo, a :: st, mm))) (kk : ∀ g, G g → zW p l e R s m args below meth c cells slots Q dC dI dA Hb ad k g) : zW p l e R s m args below meth c cells slots Q dC dI dA Hb ad k (pc, lo, st, mm) := by
  obtain ⟨hx, hb, hml, hown, hts, hK, hnm, hRf, hRl⟩ := C
  rintro ls vs H locs ⟨hlo, rfl, hH, hlc⟩
  show W p l e R s m args below meth c H locs cells slots Q (F0 m pc ls (st.map (zv ad)))
  obtain ⟨en, hd⟩ := q_dec (n := 1) hi rfl
  subst en
  unfold z_ld at h
  split at h
  · rename_i a hg
    obtain ⟨ht, h⟩ := z_bif h
    rcases a with v | o | v
    · exact lv_iload_n hx hb hd rfl (z_lgetS hlo hg) (kk _ h ls _ H locs ⟨hlo, rfl, hH, hlc⟩)
    · cases ht
    · cases ht
  · exact h.elim
theorem zs_iload {ci : Nat} (C : q_Ctx p R s m args meth c dC dI dA Hb k) (hi : ins k pc = some (.iload ci, nx, a1, a2, a3, z)) (h : z_ld lo ci 0 (fun a => G (nx, lo, a :: st, mm))) (kk : ∀ g, G g → zW p l e R s m args below meth c cells slots Q dC dI dA Hb ad k g) : zW p l e R s m args below meth c cells slots Q dC dI dA Hb ad k (pc, lo, st, mm) := by
  obtain ⟨hx, hb, hml, hown, hts, hK, hnm, hRf, hRl⟩ := C
  rintro ls vs H locs ⟨hlo, rfl, hH, hlc⟩
  show W p l e R s m args below meth c H locs cells slots Q (F0 m pc ls (st.map (zv ad)))
  obtain ⟨en, hd⟩ := q_dec (n := 2) hi rfl
  subst en
  unfold z_ld at h
  split at h
  · rename_i a hg
    obtain ⟨ht, h⟩ := z_bif h
    rcases a with v | o | v
    · exact lv_iload hx hb hd (z_lgetS hlo hg) (kk _ h ls _ H locs ⟨hlo, rfl, hH, hlc⟩)
    · cases ht
    · cases ht
  · exact h.elim
theorem zs_aload_n {ci : Fin 4} (C : q_Ctx p R s m args meth c dC dI dA Hb k) (hi : ins k pc = some (.aload_n ci, nx, a1, a2, a3, z)) (h : z_ld lo ci.val 1 (fun a => G (nx, lo, a :: st, mm))) (kk : ∀ g, G g → zW p l e R s m args below meth c cells slots Q dC dI dA Hb ad k g) : zW p l e R s m args below meth c cells slots Q dC dI dA Hb ad k (pc, lo, st, mm) := by
  obtain ⟨hx, hb, hml, hown, hts, hK, hnm, hRf, hRl⟩ := C
  rintro ls vs H locs ⟨hlo, rfl, hH, hlc⟩
  show W p l e R s m args below meth c H locs cells slots Q (F0 m pc ls (st.map (zv ad)))
  obtain ⟨en, hd⟩ := q_dec (n := 1) hi rfl
  subst en
  unfold z_ld at h
  split at h
  · rename_i a hg
    obtain ⟨ht, h⟩ := z_bif h
    rcases a with v | o | v
    · cases ht
    · rcases o with _ | o
      · exact lv_aload_nN hx hb hd rfl (z_lgetS hlo hg) (kk _ h ls _ H locs ⟨hlo, rfl, hH, hlc⟩)
      · exact lv_aload_n hx hb hd rfl (z_lgetS hlo hg) (kk _ h ls _ H locs ⟨hlo, rfl, hH, hlc⟩)
    · cases ht
  · exact h.elim
theorem zs_aload {ci : Nat} (C : q_Ctx p R s m args meth c dC dI dA Hb k) (hi : ins k pc = some (.aload ci, nx, a1, a2, a3, z)) (h : z_ld lo ci 1 (fun a => G (nx, lo, a :: st, mm))) (kk : ∀ g, G g → zW p l e R s m args below meth c cells slots Q dC dI dA Hb ad k g) : zW p l e R s m args below meth c cells slots Q dC dI dA Hb ad k (pc, lo, st, mm) := by
  obtain ⟨hx, hb, hml, hown, hts, hK, hnm, hRf, hRl⟩ := C
  rintro ls vs H locs ⟨hlo, rfl, hH, hlc⟩
  show W p l e R s m args below meth c H locs cells slots Q (F0 m pc ls (st.map (zv ad)))
  obtain ⟨en, hd⟩ := q_dec (n := 2) hi rfl
  subst en
  unfold z_ld at h
  split at h
  · rename_i a hg
    obtain ⟨ht, h⟩ := z_bif h
    rcases a with v | o | v
    · cases ht
    · rcases o with _ | o
      · exact lv_aloadN hx hb hd (z_lgetS hlo hg) (kk _ h ls _ H locs ⟨hlo, rfl, hH, hlc⟩)
      · exact lv_aload hx hb hd (z_lgetS hlo hg) (kk _ h ls _ H locs ⟨hlo, rfl, hH, hlc⟩)
    · cases ht
  · exact h.elim
theorem zs_lload_n {ci : Fin 4} (C : q_Ctx p R s m args meth c dC dI dA Hb k) (hi : ins k pc = some (.lload_n ci, nx, a1, a2, a3, z)) (h : z_ld lo ci.val 2 (fun a => G (nx, lo, a :: st, mm))) (kk : ∀ g, G g → zW p l e R s m args below meth c cells slots Q dC dI dA Hb ad k g) : zW p l e R s m args below meth c cells slots Q dC dI dA Hb ad k (pc, lo, st, mm) := by
  obtain ⟨hx, hb, hml, hown, hts, hK, hnm, hRf, hRl⟩ := C
  rintro ls vs H locs ⟨hlo, rfl, hH, hlc⟩
  show W p l e R s m args below meth c H locs cells slots Q (F0 m pc ls (st.map (zv ad)))
  obtain ⟨en, hd⟩ := q_dec (n := 1) hi rfl
  subst en
  unfold z_ld at h
  split at h
  · rename_i a hg
    obtain ⟨ht, h⟩ := z_bif h
    rcases a with v | o | v
    · cases ht
    · cases ht
    · exact lv_lload_n hx hb hd rfl (z_lgetS hlo hg) (kk _ h ls _ H locs ⟨hlo, rfl, hH, hlc⟩)
  · exact h.elim
theorem zs_lload {ci : Nat} (C : q_Ctx p R s m args meth c dC dI dA Hb k) (hi : ins k pc = some (.lload ci, nx, a1, a2, a3, z)) (h : bif Nat.beq nx (pc + 2) then z_ld lo ci 2 (fun a => G (nx, lo, a :: st, mm)) else False) (kk : ∀ g, G g → zW p l e R s m args below meth c cells slots Q dC dI dA Hb ad k g) : zW p l e R s m args below meth c cells slots Q dC dI dA Hb ad k (pc, lo, st, mm) := by
  obtain ⟨hx, hb, hml, hown, hts, hK, hnm, hRf, hRl⟩ := C
  rintro ls vs H locs ⟨hlo, rfl, hH, hlc⟩
  show W p l e R s m args below meth c H locs cells slots Q (F0 m pc ls (st.map (zv ad)))
  obtain ⟨hn, h⟩ := z_bif h
  have en := Nat.eq_of_beq_eq_true hn
  subst en
  have hd := q_dec2 (n := 2) hi rfl
  unfold z_ld at h
  split at h
  · rename_i a hg
    obtain ⟨ht, h⟩ := z_bif h
    rcases a with v | o | v
    · cases ht
    · cases ht
    · exact lv_lload hx hb hd (z_lgetS hlo hg) (kk _ h ls _ H locs ⟨hlo, rfl, hH, hlc⟩)
  · exact h.elim
theorem zs_istore_n {ci : Fin 4} (C : q_Ctx p R s m args meth c dC dI dA Hb k) (hi : ins k pc = some (.istore_n ci, nx, a1, a2, a3, z)) (h : z_st st ci.val 0 (mL k) (fun a r => G (nx, z_lset lo ci.val a, r, mm))) (kk : ∀ g, G g → zW p l e R s m args below meth c cells slots Q dC dI dA Hb ad k g) : zW p l e R s m args below meth c cells slots Q dC dI dA Hb ad k (pc, lo, st, mm) := by
  obtain ⟨hx, hb, hml, hown, hts, hK, hnm, hRf, hRl⟩ := C
  rintro ls vs H locs ⟨hlo, rfl, hH, hlc⟩
  show W p l e R s m args below meth c H locs cells slots Q (F0 m pc ls (st.map (zv ad)))
  obtain ⟨en, hd⟩ := q_dec (n := 1) hi rfl
  subst en
  unfold z_st at h
  split at h
  · rename_i a rr
    obtain ⟨ht, h⟩ := z_bif h
    rw [Bool.and_eq_true] at ht
    obtain ⟨ht, hn0⟩ := ht
    have hn := q_blt hn0
    rcases a with v | o | v
    · exact lv_istore_n hx hb hd rfl hlo hn rfl (fun ls2 h2 => kk _ h ls2 _ H locs ⟨z_lsetS (a := .inl v) h2, rfl, hH, hlc⟩)
    · cases ht
    · cases ht
  · exact h.elim
theorem zs_istore {ci : Nat} (C : q_Ctx p R s m args meth c dC dI dA Hb k) (hi : ins k pc = some (.istore ci, nx, a1, a2, a3, z)) (h : z_st st ci 0 (mL k) (fun a r => G (nx, z_lset lo ci a, r, mm))) (kk : ∀ g, G g → zW p l e R s m args below meth c cells slots Q dC dI dA Hb ad k g) : zW p l e R s m args below meth c cells slots Q dC dI dA Hb ad k (pc, lo, st, mm) := by
  obtain ⟨hx, hb, hml, hown, hts, hK, hnm, hRf, hRl⟩ := C
  rintro ls vs H locs ⟨hlo, rfl, hH, hlc⟩
  show W p l e R s m args below meth c H locs cells slots Q (F0 m pc ls (st.map (zv ad)))
  obtain ⟨en, hd⟩ := q_dec (n := 2) hi rfl
  subst en
  unfold z_st at h
  split at h
  · rename_i a rr
    obtain ⟨ht, h⟩ := z_bif h
    rw [Bool.and_eq_true] at ht
    obtain ⟨ht, hn0⟩ := ht
    have hn := q_blt hn0
    rcases a with v | o | v
    · exact lv_istore hx hb hd hlo hn rfl (fun ls2 h2 => kk _ h ls2 _ H locs ⟨z_lsetS (a := .inl v) h2, rfl, hH, hlc⟩)
    · cases ht
    · cases ht
  · exact h.elim
theorem zs_astore_n {ci : Fin 4} (C : q_Ctx p R s m args meth c dC dI dA Hb k) (hi : ins k pc = some (.astore_n ci, nx, a1, a2, a3, z)) (h : z_st st ci.val 1 (mL k) (fun a r => G (nx, z_lset lo ci.val a, r, mm))) (kk : ∀ g, G g → zW p l e R s m args below meth c cells slots Q dC dI dA Hb ad k g) : zW p l e R s m args below meth c cells slots Q dC dI dA Hb ad k (pc, lo, st, mm) := by
  obtain ⟨hx, hb, hml, hown, hts, hK, hnm, hRf, hRl⟩ := C
  rintro ls vs H locs ⟨hlo, rfl, hH, hlc⟩
  show W p l e R s m args below meth c H locs cells slots Q (F0 m pc ls (st.map (zv ad)))
  obtain ⟨en, hd⟩ := q_dec (n := 1) hi rfl
  subst en
  unfold z_st at h
  split at h
  · rename_i a rr
    obtain ⟨ht, h⟩ := z_bif h
    rw [Bool.and_eq_true] at ht
    obtain ⟨ht, hn0⟩ := ht
    have hn := q_blt hn0
    rcases a with v | o | v
    · cases ht
    · rcases o with _ | o
      · exact lv_astore_nN hx hb hd rfl hlo hn rfl (fun ls2 h2 => kk _ h ls2 _ H locs ⟨z_lsetS (a := .inr (.inl none)) h2, rfl, hH, hlc⟩)
      · exact lv_astore_n hx hb hd rfl hlo hn rfl (fun ls2 h2 => kk _ h ls2 _ H locs ⟨z_lsetS (a := .inr (.inl (some o))) h2, rfl, hH, hlc⟩)
    · cases ht
  · exact h.elim
theorem zs_astore {ci : Nat} (C : q_Ctx p R s m args meth c dC dI dA Hb k) (hi : ins k pc = some (.astore ci, nx, a1, a2, a3, z)) (h : z_st st ci 1 (mL k) (fun a r => G (nx, z_lset lo ci a, r, mm))) (kk : ∀ g, G g → zW p l e R s m args below meth c cells slots Q dC dI dA Hb ad k g) : zW p l e R s m args below meth c cells slots Q dC dI dA Hb ad k (pc, lo, st, mm) := by
  obtain ⟨hx, hb, hml, hown, hts, hK, hnm, hRf, hRl⟩ := C
  rintro ls vs H locs ⟨hlo, rfl, hH, hlc⟩
  show W p l e R s m args below meth c H locs cells slots Q (F0 m pc ls (st.map (zv ad)))
  obtain ⟨en, hd⟩ := q_dec (n := 2) hi rfl
  subst en
  unfold z_st at h
  split at h
  · rename_i a rr
    obtain ⟨ht, h⟩ := z_bif h
    rw [Bool.and_eq_true] at ht
    obtain ⟨ht, hn0⟩ := ht
    have hn := q_blt hn0
    rcases a with v | o | v
    · cases ht
    · rcases o with _ | o
      · exact lv_astoreN hx hb hd hlo hn rfl (fun ls2 h2 => kk _ h ls2 _ H locs ⟨z_lsetS (a := .inr (.inl none)) h2, rfl, hH, hlc⟩)
      · exact lv_astore hx hb hd hlo hn rfl (fun ls2 h2 => kk _ h ls2 _ H locs ⟨z_lsetS (a := .inr (.inl (some o))) h2, rfl, hH, hlc⟩)
    · cases ht
  · exact h.elim
theorem zs_lstore_n {ci : Fin 4} (C : q_Ctx p R s m args meth c dC dI dA Hb k) (hi : ins k pc = some (.lstore_n ci, nx, a1, a2, a3, z)) (h : z_st st ci.val 2 (mL k) (fun a r => G (nx, z_lset2 lo ci.val a, r, mm))) (kk : ∀ g, G g → zW p l e R s m args below meth c cells slots Q dC dI dA Hb ad k g) : zW p l e R s m args below meth c cells slots Q dC dI dA Hb ad k (pc, lo, st, mm) := by
  obtain ⟨hx, hb, hml, hown, hts, hK, hnm, hRf, hRl⟩ := C
  rintro ls vs H locs ⟨hlo, rfl, hH, hlc⟩
  show W p l e R s m args below meth c H locs cells slots Q (F0 m pc ls (st.map (zv ad)))
  obtain ⟨en, hd⟩ := q_dec (n := 1) hi rfl
  subst en
  unfold z_st at h
  split at h
  · rename_i a rr
    obtain ⟨ht, h⟩ := z_bif h
    rw [Bool.and_eq_true] at ht
    obtain ⟨ht, hn0⟩ := ht
    have hn := q_blt hn0
    rcases a with v | o | v
    · cases ht
    · cases ht
    · exact lv_lstore_n hx hb hd rfl hlo hn rfl (fun ls2 h2 => kk _ h ls2 _ H locs ⟨z_lset2S (a := .inr (.inr v)) h2, rfl, hH, hlc⟩)
  · exact h.elim
theorem zs_lstore {ci : Nat} (C : q_Ctx p R s m args meth c dC dI dA Hb k) (hi : ins k pc = some (.lstore ci, nx, a1, a2, a3, z)) (h : bif Nat.beq nx (pc + 2) then z_st st ci 2 (mL k) (fun a r => G (nx, z_lset2 lo ci a, r, mm)) else False) (kk : ∀ g, G g → zW p l e R s m args below meth c cells slots Q dC dI dA Hb ad k g) : zW p l e R s m args below meth c cells slots Q dC dI dA Hb ad k (pc, lo, st, mm) := by
  obtain ⟨hx, hb, hml, hown, hts, hK, hnm, hRf, hRl⟩ := C
  rintro ls vs H locs ⟨hlo, rfl, hH, hlc⟩
  show W p l e R s m args below meth c H locs cells slots Q (F0 m pc ls (st.map (zv ad)))
  obtain ⟨hnx, h⟩ := z_bif h
  have en := Nat.eq_of_beq_eq_true hnx
  subst en
  have hd := q_dec2 (n := 2) hi rfl
  rcases st with _ | ⟨a, rr⟩
  · exact False.elim h
  · dsimp only [z_st] at h
    obtain ⟨ht, h⟩ := z_bif h
    rw [Bool.and_eq_true] at ht
    obtain ⟨ht, hn0⟩ := ht
    have hn := q_blt hn0
    rcases a with v | o | v
    · cases ht
    · cases ht
    · exact lv_lstore hx hb hd hlo hn rfl (fun ls2 h2 => kk _ h ls2 _ H locs ⟨z_lset2S (a := .inr (.inr v)) h2, rfl, hH, hlc⟩)
theorem zs_iinc {ci : Nat} {cz : Int} (C : q_Ctx p R s m args meth c dC dI dA Hb k) (hi : ins k pc = some (.iinc ci cz, nx, a1, a2, a3, z)) (h : bif Nat.blt ci (mL k) then (match z_lget lo ci with
      | some (.inl v) => G (nx, z_lset lo ci (.inl (v + cz)), st, mm)
      | _ => False) else False) (kk : ∀ g, G g → zW p l e R s m args below meth c cells slots Q dC dI dA Hb ad k g) : zW p l e R s m args below meth c cells slots Q dC dI dA Hb ad k (pc, lo, st, mm) := by
  obtain ⟨hx, hb, hml, hown, hts, hK, hnm, hRf, hRl⟩ := C
  rintro ls vs H locs ⟨hlo, rfl, hH, hlc⟩
  show W p l e R s m args below meth c H locs cells slots Q (F0 m pc ls (st.map (zv ad)))
  obtain ⟨en, hd⟩ := q_dec (n := 3) hi rfl
  subst en
  obtain ⟨hn0, h⟩ := z_bif h
  have hn := q_blt hn0
  split at h
  · rename_i v hg
    obtain ⟨j, hj⟩ := List.getElem?_of_mem (show (ci, Value.int (Int32.ofInt v)) ∈ z_lm ad lo from List.mem_map.mpr ⟨_, z_lgetM hg, rfl⟩)
    exact lv_iinc hx hb hd hlo hj (Int32.ofInt_add v cz).symm hn rfl (fun ls2 h2 => kk _ h ls2 _ H locs ⟨z_lsetS (a := .inl (v + cz)) h2, rfl, hH, hlc⟩)
  · exact h.elim
theorem zs_iadd  (C : q_Ctx p R s m args meth c dC dI dA Hb k) (hi : ins k pc = some (.iadd, nx, a1, a2, a3, z)) (h : z_o2 st (fun a b r => G (nx, lo, .inl (a + b) :: r, mm))) (kk : ∀ g, G g → zW p l e R s m args below meth c cells slots Q dC dI dA Hb ad k g) : zW p l e R s m args below meth c cells slots Q dC dI dA Hb ad k (pc, lo, st, mm) := by
  obtain ⟨hx, hb, hml, hown, hts, hK, hnm, hRf, hRl⟩ := C
  rintro ls vs H locs ⟨hlo, rfl, hH, hlc⟩
  show W p l e R s m args below meth c H locs cells slots Q (F0 m pc ls (st.map (zv ad)))
  obtain ⟨en, hd⟩ := q_dec (n := 1) hi rfl
  subst en
  unfold z_o2 at h
  split at h
  · rename_i b a rr
    have e0 : Int32.ofInt a + Int32.ofInt b = Int32.ofInt (a + b) := (Int32.ofInt_add a b).symm
    refine lv_iadd hx hb hd (kk _ h ls _ H locs ⟨hlo, ?_, hH, hlc⟩)
    exact congrArg (fun w => Value.int w :: rr.map (zv ad)) e0
  · exact h.elim
theorem zs_isub  (C : q_Ctx p R s m args meth c dC dI dA Hb k) (hi : ins k pc = some (.isub, nx, a1, a2, a3, z)) (h : z_o2 st (fun a b r => G (nx, lo, .inl (a - b) :: r, mm))) (kk : ∀ g, G g → zW p l e R s m args below meth c cells slots Q dC dI dA Hb ad k g) : zW p l e R s m args below meth c cells slots Q dC dI dA Hb ad k (pc, lo, st, mm) := by
  obtain ⟨hx, hb, hml, hown, hts, hK, hnm, hRf, hRl⟩ := C
  rintro ls vs H locs ⟨hlo, rfl, hH, hlc⟩
  show W p l e R s m args below meth c H locs cells slots Q (F0 m pc ls (st.map (zv ad)))
  obtain ⟨en, hd⟩ := q_dec (n := 1) hi rfl
  subst en
  unfold z_o2 at h
  split at h
  · rename_i b a rr
    have e0 : Int32.ofInt a - Int32.ofInt b = Int32.ofInt (a - b) := (Int32.ofInt_sub a b).symm
    refine lv_isub hx hb hd (kk _ h ls _ H locs ⟨hlo, ?_, hH, hlc⟩)
    exact congrArg (fun w => Value.int w :: rr.map (zv ad)) e0
  · exact h.elim
theorem zs_imul  (C : q_Ctx p R s m args meth c dC dI dA Hb k) (hi : ins k pc = some (.imul, nx, a1, a2, a3, z)) (h : z_o2 st (fun a b r => G (nx, lo, .inl (a * b) :: r, mm))) (kk : ∀ g, G g → zW p l e R s m args below meth c cells slots Q dC dI dA Hb ad k g) : zW p l e R s m args below meth c cells slots Q dC dI dA Hb ad k (pc, lo, st, mm) := by
  obtain ⟨hx, hb, hml, hown, hts, hK, hnm, hRf, hRl⟩ := C
  rintro ls vs H locs ⟨hlo, rfl, hH, hlc⟩
  show W p l e R s m args below meth c H locs cells slots Q (F0 m pc ls (st.map (zv ad)))
  obtain ⟨en, hd⟩ := q_dec (n := 1) hi rfl
  subst en
  unfold z_o2 at h
  split at h
  · rename_i b a rr
    have e0 : Int32.ofInt a * Int32.ofInt b = Int32.ofInt (a * b) := (Int32.ofInt_mul a b).symm
    refine lv_imul hx hb hd (kk _ h ls _ H locs ⟨hlo, ?_, hH, hlc⟩)
    exact congrArg (fun w => Value.int w :: rr.map (zv ad)) e0
  · exact h.elim
theorem zs_iand  (C : q_Ctx p R s m args meth c dC dI dA Hb k) (hi : ins k pc = some (.iand, nx, a1, a2, a3, z)) (h : z_o2 st (fun a b r => G (nx, lo, .inl (z_and a b) :: r, mm))) (kk : ∀ g, G g → zW p l e R s m args below meth c cells slots Q dC dI dA Hb ad k g) : zW p l e R s m args below meth c cells slots Q dC dI dA Hb ad k (pc, lo, st, mm) := by
  obtain ⟨hx, hb, hml, hown, hts, hK, hnm, hRf, hRl⟩ := C
  rintro ls vs H locs ⟨hlo, rfl, hH, hlc⟩
  show W p l e R s m args below meth c H locs cells slots Q (F0 m pc ls (st.map (zv ad)))
  obtain ⟨en, hd⟩ := q_dec (n := 1) hi rfl
  subst en
  unfold z_o2 at h
  split at h
  · rename_i b a rr
    have e0 : Int32.ofInt a &&& Int32.ofInt b = Int32.ofInt (z_and a b) := z_ofN.symm
    refine lv_iand hx hb hd (kk _ h ls _ H locs ⟨hlo, ?_, hH, hlc⟩)
    exact congrArg (fun w => Value.int w :: rr.map (zv ad)) e0
  · exact h.elim
theorem zs_ior  (C : q_Ctx p R s m args meth c dC dI dA Hb k) (hi : ins k pc = some (.ior, nx, a1, a2, a3, z)) (h : z_o2 st (fun a b r => G (nx, lo, .inl (z_or a b) :: r, mm))) (kk : ∀ g, G g → zW p l e R s m args below meth c cells slots Q dC dI dA Hb ad k g) : zW p l e R s m args below meth c cells slots Q dC dI dA Hb ad k (pc, lo, st, mm) := by
  obtain ⟨hx, hb, hml, hown, hts, hK, hnm, hRf, hRl⟩ := C
  rintro ls vs H locs ⟨hlo, rfl, hH, hlc⟩
  show W p l e R s m args below meth c H locs cells slots Q (F0 m pc ls (st.map (zv ad)))
  obtain ⟨en, hd⟩ := q_dec (n := 1) hi rfl
  subst en
  unfold z_o2 at h
  split at h
  · rename_i b a rr
    have e0 : Int32.ofInt a ||| Int32.ofInt b = Int32.ofInt (z_or a b) := z_ofN.symm
    refine lv_ior hx hb hd (kk _ h ls _ H locs ⟨hlo, ?_, hH, hlc⟩)
    exact congrArg (fun w => Value.int w :: rr.map (zv ad)) e0
  · exact h.elim
theorem zs_ixor  (C : q_Ctx p R s m args meth c dC dI dA Hb k) (hi : ins k pc = some (.ixor, nx, a1, a2, a3, z)) (h : z_o2 st (fun a b r => G (nx, lo, .inl (z_xor a b) :: r, mm))) (kk : ∀ g, G g → zW p l e R s m args below meth c cells slots Q dC dI dA Hb ad k g) : zW p l e R s m args below meth c cells slots Q dC dI dA Hb ad k (pc, lo, st, mm) := by
  obtain ⟨hx, hb, hml, hown, hts, hK, hnm, hRf, hRl⟩ := C
  rintro ls vs H locs ⟨hlo, rfl, hH, hlc⟩
  show W p l e R s m args below meth c H locs cells slots Q (F0 m pc ls (st.map (zv ad)))
  obtain ⟨en, hd⟩ := q_dec (n := 1) hi rfl
  subst en
  unfold z_o2 at h
  split at h
  · rename_i b a rr
    have e0 : Int32.ofInt a ^^^ Int32.ofInt b = Int32.ofInt (z_xor a b) := z_ofN.symm
    refine lv_ixor hx hb hd (kk _ h ls _ H locs ⟨hlo, ?_, hH, hlc⟩)
    exact congrArg (fun w => Value.int w :: rr.map (zv ad)) e0
  · exact h.elim
theorem zs_ishl  (C : q_Ctx p R s m args meth c dC dI dA Hb k) (hi : ins k pc = some (.ishl, nx, a1, a2, a3, z)) (h : z_o2 st (fun a b r => G (nx, lo, .inl (z_shl a b) :: r, mm))) (kk : ∀ g, G g → zW p l e R s m args below meth c cells slots Q dC dI dA Hb ad k g) : zW p l e R s m args below meth c cells slots Q dC dI dA Hb ad k (pc, lo, st, mm) := by
  obtain ⟨hx, hb, hml, hown, hts, hK, hnm, hRf, hRl⟩ := C
  rintro ls vs H locs ⟨hlo, rfl, hH, hlc⟩
  show W p l e R s m args below meth c H locs cells slots Q (F0 m pc ls (st.map (zv ad)))
  obtain ⟨en, hd⟩ := q_dec (n := 1) hi rfl
  subst en
  unfold z_o2 at h
  split at h
  · rename_i b a rr
    have e0 : Int32.ofInt a <<< (Int32.ofInt b &&& 31) = Int32.ofInt (z_shl a b) := z_ofN.symm
    refine lv_ishl hx hb hd (kk _ h ls _ H locs ⟨hlo, ?_, hH, hlc⟩)
    exact congrArg (fun w => Value.int w :: rr.map (zv ad)) e0
  · exact h.elim
theorem zs_ishr  (C : q_Ctx p R s m args meth c dC dI dA Hb k) (hi : ins k pc = some (.ishr, nx, a1, a2, a3, z)) (h : z_o2 st (fun a b r => G (nx, lo, .inl (z_shr a b) :: r, mm))) (kk : ∀ g, G g → zW p l e R s m args below meth c cells slots Q dC dI dA Hb ad k g) : zW p l e R s m args below meth c cells slots Q dC dI dA Hb ad k (pc, lo, st, mm) := by
  obtain ⟨hx, hb, hml, hown, hts, hK, hnm, hRf, hRl⟩ := C
  rintro ls vs H locs ⟨hlo, rfl, hH, hlc⟩
  show W p l e R s m args below meth c H locs cells slots Q (F0 m pc ls (st.map (zv ad)))
  obtain ⟨en, hd⟩ := q_dec (n := 1) hi rfl
  subst en
  unfold z_o2 at h
  split at h
  · rename_i b a rr
    have e0 : Int32.ofInt a >>> (Int32.ofInt b &&& 31) = Int32.ofInt (z_shr a b) := z_ofN.symm
    refine lv_ishr hx hb hd (kk _ h ls _ H locs ⟨hlo, ?_, hH, hlc⟩)
    exact congrArg (fun w => Value.int w :: rr.map (zv ad)) e0
  · exact h.elim
theorem zs_iushr  (C : q_Ctx p R s m args meth c dC dI dA Hb k) (hi : ins k pc = some (.iushr, nx, a1, a2, a3, z)) (h : z_o2 st (fun a b r => G (nx, lo, .inl (z_ush a b) :: r, mm))) (kk : ∀ g, G g → zW p l e R s m args below meth c cells slots Q dC dI dA Hb ad k g) : zW p l e R s m args below meth c cells slots Q dC dI dA Hb ad k (pc, lo, st, mm) := by
  obtain ⟨hx, hb, hml, hown, hts, hK, hnm, hRf, hRl⟩ := C
  rintro ls vs H locs ⟨hlo, rfl, hH, hlc⟩
  show W p l e R s m args below meth c H locs cells slots Q (F0 m pc ls (st.map (zv ad)))
  obtain ⟨en, hd⟩ := q_dec (n := 1) hi rfl
  subst en
  unfold z_o2 at h
  split at h
  · rename_i b a rr
    have e0 : ((Int32.ofInt a).toUInt32 >>> ((Int32.ofInt b).toUInt32 &&& Int32.toUInt32 31)).toInt32 = Int32.ofInt (z_ush a b) := z_ofN.symm
    refine lv_iushr hx hb hd e0 (kk _ h ls _ H locs ⟨hlo, ?_, hH, hlc⟩)
    exact congrArg (fun w => Value.int w :: rr.map (zv ad)) rfl
  · exact h.elim
theorem zs_idiv  (C : q_Ctx p R s m args meth c dC dI dA Hb k) (hi : ins k pc = some (.idiv, nx, a1, a2, a3, z)) (h : z_o2 st (fun a b r => ¬ wr b = 0 ∧ G (nx, lo, .inl (Int.tdiv (wr a) (wr b)) :: r, mm))) (kk : ∀ g, G g → zW p l e R s m args below meth c cells slots Q dC dI dA Hb ad k g) : zW p l e R s m args below meth c cells slots Q dC dI dA Hb ad k (pc, lo, st, mm) := by
  obtain ⟨hx, hb, hml, hown, hts, hK, hnm, hRf, hRl⟩ := C
  rintro ls vs H locs ⟨hlo, rfl, hH, hlc⟩
  show W p l e R s m args below meth c H locs cells slots Q (F0 m pc ls (st.map (zv ad)))
  obtain ⟨en, hd⟩ := q_dec (n := 1) hi rfl
  subst en
  unfold z_o2 at h
  split at h
  · rename_i b a rr
    obtain ⟨hne, h⟩ := h
    have e0 : Int32.ofInt a / Int32.ofInt b = Int32.ofInt (Int.tdiv (wr a) (wr b)) := z_divS a b
    refine lv_idiv hx hb hd (z_neS hne) (kk _ h ls _ H locs ⟨hlo, ?_, hH, hlc⟩)
    exact congrArg (fun w => Value.int w :: rr.map (zv ad)) e0
  · exact h.elim
theorem zs_irem  (C : q_Ctx p R s m args meth c dC dI dA Hb k) (hi : ins k pc = some (.irem, nx, a1, a2, a3, z)) (h : z_o2 st (fun a b r => ¬ wr b = 0 ∧ G (nx, lo, .inl (Int.tmod (wr a) (wr b)) :: r, mm))) (kk : ∀ g, G g → zW p l e R s m args below meth c cells slots Q dC dI dA Hb ad k g) : zW p l e R s m args below meth c cells slots Q dC dI dA Hb ad k (pc, lo, st, mm) := by
  obtain ⟨hx, hb, hml, hown, hts, hK, hnm, hRf, hRl⟩ := C
  rintro ls vs H locs ⟨hlo, rfl, hH, hlc⟩
  show W p l e R s m args below meth c H locs cells slots Q (F0 m pc ls (st.map (zv ad)))
  obtain ⟨en, hd⟩ := q_dec (n := 1) hi rfl
  subst en
  unfold z_o2 at h
  split at h
  · rename_i b a rr
    obtain ⟨hne, h⟩ := h
    have e0 := z_remS a b
    refine lv_irem hx hb hd (z_neS hne) (kk _ h ls _ H locs ⟨hlo, ?_, hH, hlc⟩)
    exact congrArg (fun w => Value.int w :: rr.map (zv ad)) e0
  · exact h.elim
theorem zs_ineg  (C : q_Ctx p R s m args meth c dC dI dA Hb k) (hi : ins k pc = some (.ineg, nx, a1, a2, a3, z)) (h : z_o1 st (fun a r => G (nx, lo, .inl (-a) :: r, mm))) (kk : ∀ g, G g → zW p l e R s m args below meth c cells slots Q dC dI dA Hb ad k g) : zW p l e R s m args below meth c cells slots Q dC dI dA Hb ad k (pc, lo, st, mm) := by
  obtain ⟨hx, hb, hml, hown, hts, hK, hnm, hRf, hRl⟩ := C
  rintro ls vs H locs ⟨hlo, rfl, hH, hlc⟩
  show W p l e R s m args below meth c H locs cells slots Q (F0 m pc ls (st.map (zv ad)))
  obtain ⟨en, hd⟩ := q_dec (n := 1) hi rfl
  subst en
  unfold z_o1 at h
  split at h
  · rename_i a rr
    exact lv_ineg hx hb hd (kk _ h ls _ H locs ⟨hlo, congrArg (fun w => Value.int w :: rr.map (zv ad)) (Int32.ofInt_neg a).symm, hH, hlc⟩)
  · exact h.elim
theorem zs_i2b  (C : q_Ctx p R s m args meth c dC dI dA Hb k) (hi : ins k pc = some (.i2b, nx, a1, a2, a3, z)) (h : z_o1 st (fun a r => G (nx, lo, .inl (z_b8 a) :: r, mm))) (kk : ∀ g, G g → zW p l e R s m args below meth c cells slots Q dC dI dA Hb ad k g) : zW p l e R s m args below meth c cells slots Q dC dI dA Hb ad k (pc, lo, st, mm) := by
  obtain ⟨hx, hb, hml, hown, hts, hK, hnm, hRf, hRl⟩ := C
  rintro ls vs H locs ⟨hlo, rfl, hH, hlc⟩
  show W p l e R s m args below meth c H locs cells slots Q (F0 m pc ls (st.map (zv ad)))
  obtain ⟨en, hd⟩ := q_dec (n := 1) hi rfl
  subst en
  unfold z_o1 at h
  split at h
  · rename_i a rr
    exact lv_i2b hx hb hd (z_i2b a) (kk _ h ls _ H locs ⟨hlo, rfl, hH, hlc⟩)
  · exact h.elim
theorem zs_i2s  (C : q_Ctx p R s m args meth c dC dI dA Hb k) (hi : ins k pc = some (.i2s, nx, a1, a2, a3, z)) (h : z_o1 st (fun a r => G (nx, lo, .inl (z_s16 a) :: r, mm))) (kk : ∀ g, G g → zW p l e R s m args below meth c cells slots Q dC dI dA Hb ad k g) : zW p l e R s m args below meth c cells slots Q dC dI dA Hb ad k (pc, lo, st, mm) := by
  obtain ⟨hx, hb, hml, hown, hts, hK, hnm, hRf, hRl⟩ := C
  rintro ls vs H locs ⟨hlo, rfl, hH, hlc⟩
  show W p l e R s m args below meth c H locs cells slots Q (F0 m pc ls (st.map (zv ad)))
  obtain ⟨en, hd⟩ := q_dec (n := 1) hi rfl
  subst en
  unfold z_o1 at h
  split at h
  · rename_i a rr
    exact lv_i2s hx hb hd (z_i2s a) (kk _ h ls _ H locs ⟨hlo, rfl, hH, hlc⟩)
  · exact h.elim
theorem zs_i2c  (C : q_Ctx p R s m args meth c dC dI dA Hb k) (hi : ins k pc = some (.i2c, nx, a1, a2, a3, z)) (h : z_o1 st (fun a r => G (nx, lo, .inl (a % 65536) :: r, mm))) (kk : ∀ g, G g → zW p l e R s m args below meth c cells slots Q dC dI dA Hb ad k g) : zW p l e R s m args below meth c cells slots Q dC dI dA Hb ad k (pc, lo, st, mm) := by
  obtain ⟨hx, hb, hml, hown, hts, hK, hnm, hRf, hRl⟩ := C
  rintro ls vs H locs ⟨hlo, rfl, hH, hlc⟩
  show W p l e R s m args below meth c H locs cells slots Q (F0 m pc ls (st.map (zv ad)))
  obtain ⟨en, hd⟩ := q_dec (n := 1) hi rfl
  subst en
  unfold z_o1 at h
  split at h
  · rename_i a rr
    exact lv_i2c hx hb hd (z_i2c a) (kk _ h ls _ H locs ⟨hlo, rfl, hH, hlc⟩)
  · exact h.elim
theorem zs_i2l  (C : q_Ctx p R s m args meth c dC dI dA Hb k) (hi : ins k pc = some (.i2l, nx, a1, a2, a3, z)) (h : z_o1 st (fun a r => G (nx, lo, .inr (.inr (wr a)) :: r, mm))) (kk : ∀ g, G g → zW p l e R s m args below meth c cells slots Q dC dI dA Hb ad k g) : zW p l e R s m args below meth c cells slots Q dC dI dA Hb ad k (pc, lo, st, mm) := by
  obtain ⟨hx, hb, hml, hown, hts, hK, hnm, hRf, hRl⟩ := C
  rintro ls vs H locs ⟨hlo, rfl, hH, hlc⟩
  show W p l e R s m args below meth c H locs cells slots Q (F0 m pc ls (st.map (zv ad)))
  obtain ⟨en, hd⟩ := q_dec (n := 1) hi rfl
  subst en
  unfold z_o1 at h
  split at h
  · rename_i a rr
    exact lv_i2l hx hb hd (z_i2l a) (kk _ h ls _ H locs ⟨hlo, rfl, hH, hlc⟩)
  · exact h.elim
theorem zs_l2i  (C : q_Ctx p R s m args meth c dC dI dA Hb k) (hi : ins k pc = some (.l2i, nx, a1, a2, a3, z)) (h : match st with
      | .inr (.inr a) :: r => G (nx, lo, .inl (wl a) :: r, mm)
      | _ => False) (kk : ∀ g, G g → zW p l e R s m args below meth c cells slots Q dC dI dA Hb ad k g) : zW p l e R s m args below meth c cells slots Q dC dI dA Hb ad k (pc, lo, st, mm) := by
  obtain ⟨hx, hb, hml, hown, hts, hK, hnm, hRf, hRl⟩ := C
  rintro ls vs H locs ⟨hlo, rfl, hH, hlc⟩
  show W p l e R s m args below meth c H locs cells slots Q (F0 m pc ls (st.map (zv ad)))
  obtain ⟨en, hd⟩ := q_dec (n := 1) hi rfl
  subst en
  split at h
  · rename_i a rr
    exact lv_l2i hx hb hd (z_l2i a) (kk _ h ls _ H locs ⟨hlo, rfl, hH, hlc⟩)
  · exact h.elim
theorem zs_ladd  (C : q_Ctx p R s m args meth c dC dI dA Hb k) (hi : ins k pc = some (.ladd, nx, a1, a2, a3, z)) (h : z_l2 st (fun a b r => G (nx, lo, .inr (.inr (a + b)) :: r, mm))) (kk : ∀ g, G g → zW p l e R s m args below meth c cells slots Q dC dI dA Hb ad k g) : zW p l e R s m args below meth c cells slots Q dC dI dA Hb ad k (pc, lo, st, mm) := by
  obtain ⟨hx, hb, hml, hown, hts, hK, hnm, hRf, hRl⟩ := C
  rintro ls vs H locs ⟨hlo, rfl, hH, hlc⟩
  show W p l e R s m args below meth c H locs cells slots Q (F0 m pc ls (st.map (zv ad)))
  obtain ⟨en, hd⟩ := q_dec (n := 1) hi rfl
  subst en
  unfold z_l2 at h
  split at h
  · rename_i b a rr
    exact lv_ladd hx hb hd (kk _ h ls _ H locs ⟨hlo, congrArg (fun w => Value.long w :: rr.map (zv ad)) (Int64.ofInt_add a b).symm, hH, hlc⟩)
  · exact h.elim
theorem zs_lmul  (C : q_Ctx p R s m args meth c dC dI dA Hb k) (hi : ins k pc = some (.lmul, nx, a1, a2, a3, z)) (h : z_l2 st (fun a b r => G (nx, lo, .inr (.inr (a * b)) :: r, mm))) (kk : ∀ g, G g → zW p l e R s m args below meth c cells slots Q dC dI dA Hb ad k g) : zW p l e R s m args below meth c cells slots Q dC dI dA Hb ad k (pc, lo, st, mm) := by
  obtain ⟨hx, hb, hml, hown, hts, hK, hnm, hRf, hRl⟩ := C
  rintro ls vs H locs ⟨hlo, rfl, hH, hlc⟩
  show W p l e R s m args below meth c H locs cells slots Q (F0 m pc ls (st.map (zv ad)))
  obtain ⟨en, hd⟩ := q_dec (n := 1) hi rfl
  subst en
  unfold z_l2 at h
  split at h
  · rename_i b a rr
    exact lv_lmul hx hb hd (kk _ h ls _ H locs ⟨hlo, congrArg (fun w => Value.long w :: rr.map (zv ad)) (Int64.ofInt_mul a b).symm, hH, hlc⟩)
  · exact h.elim
theorem zs_ldiv  (C : q_Ctx p R s m args meth c dC dI dA Hb k) (hi : ins k pc = some (.ldiv, nx, a1, a2, a3, z)) (h : z_l2 st (fun a b r => ¬ wl b = 0 ∧ G (nx, lo, .inr (.inr (Int.tdiv (wl a) (wl b))) :: r, mm))) (kk : ∀ g, G g → zW p l e R s m args below meth c cells slots Q dC dI dA Hb ad k g) : zW p l e R s m args below meth c cells slots Q dC dI dA Hb ad k (pc, lo, st, mm) := by
  obtain ⟨hx, hb, hml, hown, hts, hK, hnm, hRf, hRl⟩ := C
  rintro ls vs H locs ⟨hlo, rfl, hH, hlc⟩
  show W p l e R s m args below meth c H locs cells slots Q (F0 m pc ls (st.map (zv ad)))
  obtain ⟨en, hd⟩ := q_dec (n := 1) hi rfl
  subst en
  unfold z_l2 at h
  split at h
  · rename_i b a rr
    obtain ⟨hne, h⟩ := h
    exact lv_ldiv hx hb hd (z_lneS hne) (kk _ h ls _ H locs ⟨hlo, congrArg (fun w => Value.long w :: rr.map (zv ad)) (z_ldivS a b), hH, hlc⟩)
  · exact h.elim
theorem zs_lrem  (C : q_Ctx p R s m args meth c dC dI dA Hb k) (hi : ins k pc = some (.lrem, nx, a1, a2, a3, z)) (h : z_l2 st (fun a b r => ¬ wl b = 0 ∧ G (nx, lo, .inr (.inr (Int.tmod (wl a) (wl b))) :: r, mm))) (kk : ∀ g, G g → zW p l e R s m args below meth c cells slots Q dC dI dA Hb ad k g) : zW p l e R s m args below meth c cells slots Q dC dI dA Hb ad k (pc, lo, st, mm) := by
  obtain ⟨hx, hb, hml, hown, hts, hK, hnm, hRf, hRl⟩ := C
  rintro ls vs H locs ⟨hlo, rfl, hH, hlc⟩
  show W p l e R s m args below meth c H locs cells slots Q (F0 m pc ls (st.map (zv ad)))
  obtain ⟨en, hd⟩ := q_dec (n := 1) hi rfl
  subst en
  unfold z_l2 at h
  split at h
  · rename_i b a rr
    obtain ⟨hne, h⟩ := h
    exact lv_lrem hx hb hd (z_lneS hne) (kk _ h ls _ H locs ⟨hlo, congrArg (fun w => Value.long w :: rr.map (zv ad)) (z_lremS a b), hH, hlc⟩)
  · exact h.elim
theorem zs_lcmp  (C : q_Ctx p R s m args meth c dC dI dA Hb k) (hi : ins k pc = some (.lcmp, nx, a1, a2, a3, z)) (h : z_l2 st (fun a b r => G (nx, lo, .inl (z_lc a b) :: r, mm))) (kk : ∀ g, G g → zW p l e R s m args below meth c cells slots Q dC dI dA Hb ad k g) : zW p l e R s m args below meth c cells slots Q dC dI dA Hb ad k (pc, lo, st, mm) := by
  obtain ⟨hx, hb, hml, hown, hts, hK, hnm, hRf, hRl⟩ := C
  rintro ls vs H locs ⟨hlo, rfl, hH, hlc⟩
  show W p l e R s m args below meth c H locs cells slots Q (F0 m pc ls (st.map (zv ad)))
  obtain ⟨en, hd⟩ := q_dec (n := 1) hi rfl
  subst en
  unfold z_l2 at h
  split at h
  · rename_i b a rr
    exact W.lcmp hx hb hd (kk _ h ls _ H locs ⟨hlo, congrArg (fun w => Value.int w :: rr.map (zv ad)) (z_lcS a b), hH, hlc⟩)
  · exact h.elim
theorem zs_ifc {cc : ClassFile.Cond} {cz : Int} (C : q_Ctx p R s m args meth c dC dI dA Hb k) (hi : ins k pc = some (.ifCond cc cz, nx, a1, a2, a3, z)) (h : z_o1 st (fun a r => (z_tst cc (wr a) 0 → G (a1, lo, r, mm)) ∧ (¬ z_tst cc (wr a) 0 → G (nx, lo, r, mm)))) (kk : ∀ g, G g → zW p l e R s m args below meth c cells slots Q dC dI dA Hb ad k g) : zW p l e R s m args below meth c cells slots Q dC dI dA Hb ad k (pc, lo, st, mm) := by
  obtain ⟨hx, hb, hml, hown, hts, hK, hnm, hRf, hRl⟩ := C
  rintro ls vs H locs ⟨hlo, rfl, hH, hlc⟩
  show W p l e R s m args below meth c H locs cells slots Q (F0 m pc ls (st.map (zv ad)))
  obtain ⟨en, hd⟩ := q_dec (n := 3) hi rfl
  subst en
  have hc := (q_rowI hi).2.2.1
  simp only [c_I, Bool.and_eq_true, decide_eq_true_eq] at hc
  have ht := hc.1
  unfold z_o1 at h
  split at h
  · rename_i a rr
    have e0 : wr 0 = 0 := by decide
    have e1 : (0 : Int32) = Int32.ofInt 0 := rfl
    have S := z_cmpS cc a 0
    rw [e0, ← e1] at S
    have B : (q_holds cc (Int32.ofInt a) (0) → W p l e R s m args below meth c H locs cells slots Q (F0 m a1 ls (rr.map (zv ad)))) ∧ (¬ q_holds cc (Int32.ofInt a) (0) → W p l e R s m args below meth c H locs cells slots Q (F0 m (pc + 3) ls (rr.map (zv ad)))) := ⟨fun q => kk _ (h.1 (S.mp q)) ls _ H locs ⟨hlo, rfl, hH, hlc⟩, fun q => kk _ (h.2 (fun q2 => q (S.mpr q2))) ls _ H locs ⟨hlo, rfl, hH, hlc⟩⟩
    cases cc with
    | eq => exact lv_if_eq hx hb hd ht (fun q => B.1 (q_holdeq q)) (fun q => B.2 (q_nholdeq q))
    | ne => exact lv_if_ne hx hb hd ht (fun q => B.1 (q_holdne q)) (fun q => B.2 (q_nholdne q))
    | lt => exact lv_if_lt hx hb hd ht (fun q => B.1 (q_holdlt q)) (fun q => B.2 (q_nholdlt q))
    | ge => exact lv_if_ge hx hb hd ht (fun q => B.1 (q_holdge q)) (fun q => B.2 (q_nholdge q))
    | gt => exact lv_if_gt hx hb hd ht (fun q => B.1 (q_holdgt q)) (fun q => B.2 (q_nholdgt q))
    | le => exact lv_if_le hx hb hd ht (fun q => B.1 (q_holdle q)) (fun q => B.2 (q_nholdle q))
  · exact h.elim
theorem zs_icmp {cc : ClassFile.Cond} {cz : Int} (C : q_Ctx p R s m args meth c dC dI dA Hb k) (hi : ins k pc = some (.if_icmp cc cz, nx, a1, a2, a3, z)) (h : z_o2 st (fun a b r => (z_tst cc (wr a) (wr b) → G (a1, lo, r, mm)) ∧ (¬ z_tst cc (wr a) (wr b) → G (nx, lo, r, mm)))) (kk : ∀ g, G g → zW p l e R s m args below meth c cells slots Q dC dI dA Hb ad k g) : zW p l e R s m args below meth c cells slots Q dC dI dA Hb ad k (pc, lo, st, mm) := by
  obtain ⟨hx, hb, hml, hown, hts, hK, hnm, hRf, hRl⟩ := C
  rintro ls vs H locs ⟨hlo, rfl, hH, hlc⟩
  show W p l e R s m args below meth c H locs cells slots Q (F0 m pc ls (st.map (zv ad)))
  obtain ⟨en, hd⟩ := q_dec (n := 3) hi rfl
  subst en
  have hc := (q_rowI hi).2.2.1
  simp only [c_I, Bool.and_eq_true, decide_eq_true_eq] at hc
  have ht := hc.1
  unfold z_o2 at h
  split at h
  · rename_i b a rr
    have S := z_cmpS cc a b
    have B : (q_holds cc (Int32.ofInt a) (Int32.ofInt b) → W p l e R s m args below meth c H locs cells slots Q (F0 m a1 ls (rr.map (zv ad)))) ∧ (¬ q_holds cc (Int32.ofInt a) (Int32.ofInt b) → W p l e R s m args below meth c H locs cells slots Q (F0 m (pc + 3) ls (rr.map (zv ad)))) := ⟨fun q => kk _ (h.1 (S.mp q)) ls _ H locs ⟨hlo, rfl, hH, hlc⟩, fun q => kk _ (h.2 (fun q2 => q (S.mpr q2))) ls _ H locs ⟨hlo, rfl, hH, hlc⟩⟩
    cases cc with
    | eq => exact lv_icmp_eq hx hb hd ht (fun q => B.1 (q_holdeq q)) (fun q => B.2 (q_nholdeq q))
    | ne => exact lv_icmp_ne hx hb hd ht (fun q => B.1 (q_holdne q)) (fun q => B.2 (q_nholdne q))
    | lt => exact lv_icmp_lt hx hb hd ht (fun q => B.1 (q_holdlt q)) (fun q => B.2 (q_nholdlt q))
    | ge => exact lv_icmp_ge hx hb hd ht (fun q => B.1 (q_holdge q)) (fun q => B.2 (q_nholdge q))
    | gt => exact lv_icmp_gt hx hb hd ht (fun q => B.1 (q_holdgt q)) (fun q => B.2 (q_nholdgt q))
    | le => exact lv_icmp_le hx hb hd ht (fun q => B.1 (q_holdle q)) (fun q => B.2 (q_nholdle q))
  · exact h.elim
theorem zs_goto {cz : Int} (C : q_Ctx p R s m args meth c dC dI dA Hb k) (hi : ins k pc = some (.goto cz, nx, a1, a2, a3, z)) (h : G (a1, lo, st, mm)) (kk : ∀ g, G g → zW p l e R s m args below meth c cells slots Q dC dI dA Hb ad k g) : zW p l e R s m args below meth c cells slots Q dC dI dA Hb ad k (pc, lo, st, mm) := by
  obtain ⟨hx, hb, hml, hown, hts, hK, hnm, hRf, hRl⟩ := C
  rintro ls vs H locs ⟨hlo, rfl, hH, hlc⟩
  show W p l e R s m args below meth c H locs cells slots Q (F0 m pc ls (st.map (zv ad)))
  have hc := (q_rowI hi).2.2.1
  simp only [c_I, Bool.and_eq_true, decide_eq_true_eq] at hc
  obtain ⟨en, hd⟩ := q_dec (n := 3) hi rfl
  exact lv_goto hx hb hd hc.1 (kk _ h ls _ H locs ⟨hlo, rfl, hH, hlc⟩)
theorem zs_dup  (C : q_Ctx p R s m args meth c dC dI dA Hb k) (hi : ins k pc = some (.dup, nx, a1, a2, a3, z)) (h : match st with
      | a :: r => bif Nat.beq (z_cat a) 1 then G (nx, lo, a :: a :: r, mm) else False
      | _ => False) (kk : ∀ g, G g → zW p l e R s m args below meth c cells slots Q dC dI dA Hb ad k g) : zW p l e R s m args below meth c cells slots Q dC dI dA Hb ad k (pc, lo, st, mm) := by
  obtain ⟨hx, hb, hml, hown, hts, hK, hnm, hRf, hRl⟩ := C
  rintro ls vs H locs ⟨hlo, rfl, hH, hlc⟩
  show W p l e R s m args below meth c H locs cells slots Q (F0 m pc ls (st.map (zv ad)))
  obtain ⟨en, hd⟩ := q_dec (n := 1) hi rfl
  subst en
  split at h
  · rename_i a rr
    obtain ⟨h1, h⟩ := z_bif h
    exact lv_dup hx hb hd ((z_catS ad a).trans (Nat.eq_of_beq_eq_true h1)) (kk _ h ls _ H locs ⟨hlo, rfl, hH, hlc⟩)
  · exact h.elim
theorem zs_pop  (C : q_Ctx p R s m args meth c dC dI dA Hb k) (hi : ins k pc = some (.pop, nx, a1, a2, a3, z)) (h : match st with
      | a :: r => bif Nat.beq (z_cat a) 1 then G (nx, lo, r, mm) else False
      | _ => False) (kk : ∀ g, G g → zW p l e R s m args below meth c cells slots Q dC dI dA Hb ad k g) : zW p l e R s m args below meth c cells slots Q dC dI dA Hb ad k (pc, lo, st, mm) := by
  obtain ⟨hx, hb, hml, hown, hts, hK, hnm, hRf, hRl⟩ := C
  rintro ls vs H locs ⟨hlo, rfl, hH, hlc⟩
  show W p l e R s m args below meth c H locs cells slots Q (F0 m pc ls (st.map (zv ad)))
  obtain ⟨en, hd⟩ := q_dec (n := 1) hi rfl
  subst en
  split at h
  · rename_i a rr
    obtain ⟨h1, h⟩ := z_bif h
    exact lv_pop hx hb hd ((z_catS ad a).trans (Nat.eq_of_beq_eq_true h1)) (kk _ h ls _ H locs ⟨hlo, rfl, hH, hlc⟩)
  · exact h.elim
theorem zs_dup_x1  (C : q_Ctx p R s m args meth c dC dI dA Hb k) (hi : ins k pc = some (.dup_x1, nx, a1, a2, a3, z)) (h : match st with
      | a :: b :: r => bif Nat.beq (z_cat a) 1 && Nat.beq (z_cat b) 1 then G (nx, lo, a :: b :: a :: r, mm) else False
      | _ => False) (kk : ∀ g, G g → zW p l e R s m args below meth c cells slots Q dC dI dA Hb ad k g) : zW p l e R s m args below meth c cells slots Q dC dI dA Hb ad k (pc, lo, st, mm) := by
  obtain ⟨hx, hb, hml, hown, hts, hK, hnm, hRf, hRl⟩ := C
  rintro ls vs H locs ⟨hlo, rfl, hH, hlc⟩
  show W p l e R s m args below meth c H locs cells slots Q (F0 m pc ls (st.map (zv ad)))
  obtain ⟨en, hd⟩ := q_dec (n := 1) hi rfl
  subst en
  split at h
  · rename_i a b rr
    obtain ⟨h1, h⟩ := z_bif h
    rw [Bool.and_eq_true] at h1
    exact lv_dup_x1 hx hb hd ((z_catS ad a).trans (Nat.eq_of_beq_eq_true h1.1)) ((z_catS ad b).trans (Nat.eq_of_beq_eq_true h1.2)) (kk _ h ls _ H locs ⟨hlo, rfl, hH, hlc⟩)
  · exact h.elim
theorem zs_dup2  (C : q_Ctx p R s m args meth c dC dI dA Hb k) (hi : ins k pc = some (.dup2, nx, a1, a2, a3, z)) (h : match st with
      | a :: b :: r => bif Nat.beq (z_cat a) 1 && Nat.beq (z_cat b) 1 then G (nx, lo, a :: b :: a :: b :: r, mm) else False
      | _ => False) (kk : ∀ g, G g → zW p l e R s m args below meth c cells slots Q dC dI dA Hb ad k g) : zW p l e R s m args below meth c cells slots Q dC dI dA Hb ad k (pc, lo, st, mm) := by
  obtain ⟨hx, hb, hml, hown, hts, hK, hnm, hRf, hRl⟩ := C
  rintro ls vs H locs ⟨hlo, rfl, hH, hlc⟩
  show W p l e R s m args below meth c H locs cells slots Q (F0 m pc ls (st.map (zv ad)))
  obtain ⟨en, hd⟩ := q_dec (n := 1) hi rfl
  subst en
  split at h
  · rename_i a b rr
    obtain ⟨h1, h⟩ := z_bif h
    rw [Bool.and_eq_true] at h1
    exact lv_dup2_11 hx hb hd ((z_catS ad a).trans (Nat.eq_of_beq_eq_true h1.1)) ((z_catS ad b).trans (Nat.eq_of_beq_eq_true h1.2)) (kk _ h ls _ H locs ⟨hlo, rfl, hH, hlc⟩)
  · exact h.elim
end ZStep
