/-! Each step of the second machine is a step of the true one. -/
noncomputable def c_lenI : Instr → Option Nat
  | .iconst _ => some 1
  | .bipush _ => some 2
  | .sipush _ => some 3
  | .ldc _ => some 2
  | .ldc_w _ => some 3
  | .iload_n _ => some 1
  | .aload_n _ => some 1
  | .istore_n _ => some 1
  | .astore_n _ => some 1
  | .iload _ => some 2
  | .aload _ => some 2
  | .istore _ => some 2
  | .astore _ => some 2
  | .iinc _ _ => some 3
  | .ifCond _ _ => some 3
  | .if_icmp _ _ => some 3
  | .goto _ => some 3
  | .tableswitch _ _ _ _ => none
  | .lookupswitch _ _ => none
  | .ldc2_w _ => none
  | .lload _ => none
  | .lstore _ => none
  | .ifnull _ => none
  | .ifnonnull _ => none
  | .getfield _ => some 3
  | .putfield _ => some 3
  | .new _ => some 3
  | .newarray _ => some 2
  | .multianewarray _ _ => some 4
  | .invokestatic _ => some 3
  | .invokevirtual _ => some 3
  | .invokespecial _ => some 3
  | _ => some 1
/-- what rows are made -/
noncomputable def c_naI : Instr → Bool
  | .newarray .float => false
  | .newarray .double => false
  | .newarray .short => false
  | _ => true
noncomputable def c_len (k : Nat) : Bool := (List.range (mN k)).all (fun pc => match ins k pc with
  | none => true
  | some q => c_naI q.1 && (match c_lenI q.1 with
    | none => true
    | some n => Nat.beq q.2.1 (pc + n)))
set_option maxRecDepth 1000000 in
theorem c_len0 : ∀ k, k < 60 → c_len (0 + k) = true := by decide +kernel
set_option maxRecDepth 1000000 in
theorem c_len1 : ∀ k, k < 60 → c_len (60 + k) = true := by decide +kernel
set_option maxRecDepth 1000000 in
theorem c_len2 : ∀ k, k < 60 → c_len (120 + k) = true := by decide +kernel
set_option maxRecDepth 1000000 in
theorem c_len3 : ∀ k, k < 60 → c_len (180 + k) = true := by decide +kernel
set_option maxRecDepth 1000000 in
theorem c_len4 : ∀ k, k < 60 → c_len (240 + k) = true := by decide +kernel
set_option maxRecDepth 1000000 in
theorem c_len5 : ∀ k, k < 3 → c_len (300 + k) = true := by decide +kernel
theorem c_lenA (k : Nat) (hk : k < 303) : c_len k = true := by
  by_cases h0 : k < 60
  · have := c_len0 (k - 0) (by omega); rwa [show 0 + (k - 0) = k by omega] at this
  by_cases h1 : k < 120
  · have := c_len1 (k - 60) (by omega); rwa [show 60 + (k - 60) = k by omega] at this
  by_cases h2 : k < 180
  · have := c_len2 (k - 120) (by omega); rwa [show 120 + (k - 120) = k by omega] at this
  by_cases h3 : k < 240
  · have := c_len3 (k - 180) (by omega); rwa [show 180 + (k - 180) = k by omega] at this
  by_cases h4 : k < 300
  · have := c_len4 (k - 240) (by omega); rwa [show 240 + (k - 240) = k by omega] at this
  by_cases h5 : k < 303
  · have := c_len5 (k - 300) (by omega); rwa [show 300 + (k - 300) = k by omega] at this
  omega
theorem q_blt {a b : Nat} (h : Nat.blt a b = true) : a < b := Nat.le_of_ble_eq_true h
theorem q_ins {k pc : Nat} {q : pR} (hi : ins k pc = some q) : k < 303 ∧ pc < mN k := by
  unfold ins at hi
  cases h1 : Nat.blt k nMth with
  | false => rw [h1] at hi; cases hi
  | true =>
    rw [h1] at hi
    cases h2 : Nat.blt pc (mth k).2.2.1 with
    | false => rw [h2] at hi; cases hi
    | true => exact ⟨q_blt h1, q_blt h2⟩
theorem q_rowI {k pc : Nat} {q : pR} (hi : ins k pc = some q) : pc < q.2.1 ∧ decode (mC k) pc = .ok (q.1, q.2.1 - pc) ∧ c_I k pc q = true ∧ (∀ n, c_lenI q.1 = some n → q.2.1 = pc + n) ∧ c_naI q.1 = true := by
  obtain ⟨hk, hp⟩ := q_ins hi
  have h2 := c_rows k hk pc hp
  simp only [c_row, hi, Bool.and_eq_true, decide_eq_true_eq] at h2
  have h3 := List.all_eq_true.mp (c_lenA k hk) pc (List.mem_range.mpr hp)
  simp only [hi, Bool.and_eq_true] at h3
  refine ⟨q_blt h2.1.1, h2.1.2, h2.2, fun n hn => ?_, h3.1⟩
  have h4 := h3.2
  simp only [hn] at h4
  exact Nat.eq_of_beq_eq_true h4
theorem q_dec {k pc n : Nat} {q : pR} (hi : ins k pc = some q) (hn : c_lenI q.1 = some n) : q.2.1 = pc + n ∧ decode (mC k) pc = .ok (q.1, n) := by
  obtain ⟨h1, h2, h3, h4, -⟩ := q_rowI hi
  have e := h4 n hn
  refine ⟨e, ?_⟩
  rw [h2, e]
  congr 2
  omega
theorem q_dec2 {k pc n : Nat} {q : pR} (hi : ins k pc = some q) (e : q.2.1 = pc + n) : decode (mC k) pc = .ok (q.1, n) := by
  obtain ⟨h1, h2, -⟩ := q_rowI hi
  rw [h2, e]
  congr 2
  omega
theorem q_meth {k : Nat} (hk : k < 302) (hp : c_plain k = true) : c_M k = true := by
  have h := c_all k hk
  simp only [c_meth, Bool.and_eq_true, Bool.or_eq_true] at h
  rcases h.1 with h1 | h1
  · rw [hp] at h1
    cases h1
  · exact h1
theorem s_in32S {z : Int} (h : s_in32 (z, z) = true) : (Int32.ofInt z).toInt = z := by
  simp only [s_in32, Bool.and_eq_true] at h
  have h1 : -2147483648 ≤ z := s_le_iff.mp h.1
  have h2 : z ≤ 2147483647 := s_le_iff.mp h.2
  exact Int32.toInt_ofInt_of_le (by omega) (by omega)
noncomputable def q_Ctx (p : Program) (R : Room) (s : State) (m : MethodId) (args : Array Value) (meth : Method) (c : Code) (dC : Nat → ClassId) (dI : Nat → Nat → Nat) (dA : FieldType → ClassId) (Hb : Heap) (k : Nat) : Prop :=
  p.tables.exec = Jvm.exec ∧ c.code = mC k ∧ c.maxLocals = mL k ∧ s.vm.findClass (mY k).cls = some m.cls ∧ (∀ w ∈ tb, w.before args s = true) ∧ q_K dC dI dA Hb s ∧ ((mY k).name = "<init>" → meth.name = "<init>") ∧ 8 ≤ R.frames ∧ 400 ≤ R.locals
noncomputable def q_Fr (dC : Nat → ClassId) (dI : Nat → Nat → Nat) (dA : FieldType → ClassId) (rs : List Int) (ad : Nat → Nat) (Hb H0 : Heap) (nL : Nat) (f : sG) (ls : Array Slot) (vs : List Value) (H : Heap) (locs : List Loc) : Prop :=
  q_Lo rs ad f.2.1 ls nL ∧ q_L rs ad f.2.2.1 vs ∧ q_E rs f.2.2.2.1 ∧ q_G dC dI dA rs ad Hb H0 f.2.2.2.1 f.2.2.2.2 H ∧ ∀ q ∈ locs, Hb.size ≤ q.base
section Step
variable {p : Program} {l : Launch} {e : Env} {R : Room} {s : State} {m : MethodId} {args : Array Value} {below : List Frame} {meth : Method} {c : Code} {H : Heap} {locs : List Loc} {cells slots : Nat} {Q : State → Prop}
variable {dC : Nat → ClassId} {dI : Nat → Nat → Nat} {dA : FieldType → ClassId} {rs : List Int} {ad : Nat → Nat} {Hb H0 : Heap} {k pc nx a1 a2 a3 : Nat} {z : Int} {lo : sL} {st : List sA} {E : sE} {h : sH} {ls : Array Slot} {vs : List Value} {l0 : List (Nat × Nat × sG)}
/-- what is to be shown behind a step -/
noncomputable abbrev q_KK (p : Program) (l : Launch) (e : Env) (R : Room) (s : State) (m : MethodId) (args : Array Value) (below : List Frame) (meth : Method) (c : Code) (cells slots : Nat) (Q : State → Prop) (dC : Nat → ClassId) (dI : Nat → Nat → Nat) (dA : FieldType → ClassId) (rs : List Int) (ad : Nat → Nat) (Hb H0 : Heap) (k : Nat) (l0 : List (Nat × Nat × sG)) : Prop :=
  ∀ q ∈ l0, ∀ (x : List Int) (ls : Array Slot) (vs : List Value) (H : Heap) (locs : List Loc), q_Fr dC dI dA (rs ++ x) ad Hb H0 (mL k) q.2.2 ls vs H locs → W p l e R s m args below meth c H locs (cells + q.1) (slots + q.2.1) Q (F0 m q.2.2.1 ls vs)
theorem q_goE {x : List Int} {st' : List sA} {lo' : sL} {E' : sE} {h' : sH} {ls' : Array Slot} {vs' : List Value} {H' : Heap} {locs' : List Loc} (hs : s_go nx lo' st' E' h' = some (.inl l0)) (kk : q_KK p l e R s m args below meth c cells slots Q dC dI dA rs ad Hb H0 k l0) (F' : q_Fr dC dI dA (rs ++ x) ad Hb H0 (mL k) (nx, lo', st', E', h') ls' vs' H' locs') : W p l e R s m args below meth c H' locs' cells slots Q (F0 m nx ls' vs') := by
  cases hs
  exact kk _ (List.mem_singleton.mpr rfl) x ls' vs' H' locs' F'
theorem q_go {st' : List sA} {lo' : sL} {E' : sE} {h' : sH} {ls' : Array Slot} {vs' : List Value} {H' : Heap} {locs' : List Loc} (hs : s_go nx lo' st' E' h' = some (.inl l0)) (kk : q_KK p l e R s m args below meth c cells slots Q dC dI dA rs ad Hb H0 k l0) (F' : q_Fr dC dI dA rs ad Hb H0 (mL k) (nx, lo', st', E', h') ls' vs' H' locs') : W p l e R s m args below meth c H' locs' cells slots Q (F0 m nx ls' vs') :=
  q_goE (x := []) hs kk (by rw [List.append_nil]; exact F')
theorem q_gox {st' : List sA} {X : sX} {y : Int32} {vs' : List Value} (hs : s_gox nx lo st' X h = some (.inl l0)) (kk : q_KK p l e R s m args below meth c cells slots Q dC dI dA rs ad Hb H0 k l0) (hR : q_R rs E X y) (hlo : q_Lo rs ad lo ls (mL k)) (hst : q_L rs ad st' vs') (hG : q_G dC dI dA rs ad Hb H0 E h H) (hlc : ∀ q ∈ locs, Hb.size ≤ q.base) : W p l e R s m args below meth c H locs cells slots Q (F0 m nx ls (.int y :: vs')) := by
  cases hs
  obtain ⟨x, h1, h2, h3⟩ := hR
  exact kk _ (List.mem_singleton.mpr rfl) x ls _ H locs ⟨hlo.mono x, ⟨_, _, rfl, ⟨_, rfl, h2⟩, hst.mono x⟩, h1, (hG.mono x).env h3, hlc⟩
theorem q_iconst {cz : Int} (C : q_Ctx p R s m args meth c dC dI dA Hb k) (hi : ins k pc = some (.iconst cz, nx, a1, a2, a3, z)) (hs : (bif s_in32 (cz, cz) then s_go nx lo (.inl (s_num cz) :: st) E h else none : Option sS) = some (.inl l0)) (F : q_Fr dC dI dA rs ad Hb H0 (mL k) (pc, lo, st, E, h) ls vs H locs) (kk : q_KK p l e R s m args below meth c cells slots Q dC dI dA rs ad Hb H0 k l0) : W p l e R s m args below meth c H locs cells slots Q (F0 m pc ls vs) := by
  obtain ⟨hx, hb, hml, hown, hts, hK, hnm, hRf, hRl⟩ := C
  obtain ⟨hlo, hst, hE, hG, hlc⟩ := F
  obtain ⟨en, hd⟩ := q_dec (n := 1) hi rfl
  subst en
  cases hc : s_in32 (cz, cz) with
  | false => rw [hc] at hs; cases hs
  | true =>
    rw [hc] at hs
    exact lv_iconst hx hb hd rfl (q_go hs kk ⟨hlo, ⟨_, _, rfl, ⟨_, rfl, by rw [s_in32S hc]; exact s_numS _⟩, hst⟩, hE, hG, hlc⟩)
theorem q_bipush {cz : Int} (C : q_Ctx p R s m args meth c dC dI dA Hb k) (hi : ins k pc = some (.bipush cz, nx, a1, a2, a3, z)) (hs : (s_go nx lo (.inl (s_num (Int8.ofInt cz).toInt32.toInt) :: st) E h : Option sS) = some (.inl l0)) (F : q_Fr dC dI dA rs ad Hb H0 (mL k) (pc, lo, st, E, h) ls vs H locs) (kk : q_KK p l e R s m args below meth c cells slots Q dC dI dA rs ad Hb H0 k l0) : W p l e R s m args below meth c H locs cells slots Q (F0 m pc ls vs) := by
  obtain ⟨hx, hb, hml, hown, hts, hK, hnm, hRf, hRl⟩ := C
  obtain ⟨hlo, hst, hE, hG, hlc⟩ := F
  obtain ⟨en, hd⟩ := q_dec (n := 2) hi rfl
  subst en
  exact lv_bipush hx hb hd rfl (q_go hs kk ⟨hlo, ⟨_, _, rfl, ⟨_, rfl, s_numS _⟩, hst⟩, hE, hG, hlc⟩)
theorem q_sipush {cz : Int} (C : q_Ctx p R s m args meth c dC dI dA Hb k) (hi : ins k pc = some (.sipush cz, nx, a1, a2, a3, z)) (hs : (s_go nx lo (.inl (s_num (Int16.ofInt cz).toInt32.toInt) :: st) E h : Option sS) = some (.inl l0)) (F : q_Fr dC dI dA rs ad Hb H0 (mL k) (pc, lo, st, E, h) ls vs H locs) (kk : q_KK p l e R s m args below meth c cells slots Q dC dI dA rs ad Hb H0 k l0) : W p l e R s m args below meth c H locs cells slots Q (F0 m pc ls vs) := by
  obtain ⟨hx, hb, hml, hown, hts, hK, hnm, hRf, hRl⟩ := C
  obtain ⟨hlo, hst, hE, hG, hlc⟩ := F
  obtain ⟨en, hd⟩ := q_dec (n := 3) hi rfl
  subst en
  exact lv_sipush hx hb hd rfl (q_go hs kk ⟨hlo, ⟨_, _, rfl, ⟨_, rfl, s_numS _⟩, hst⟩, hE, hG, hlc⟩)
theorem q_ldc {ci : Nat} (C : q_Ctx p R s m args meth c dC dI dA Hb k) (hi : ins k pc = some (.ldc ci, nx, a1, a2, a3, z)) (hs : (bif Nat.beq a1 0 && s_in32 (z, z) then s_go nx lo (.inl (s_num z) :: st) E h else none : Option sS) = some (.inl l0)) (F : q_Fr dC dI dA rs ad Hb H0 (mL k) (pc, lo, st, E, h) ls vs H locs) (kk : q_KK p l e R s m args below meth c cells slots Q dC dI dA rs ad Hb H0 k l0) : W p l e R s m args below meth c H locs cells slots Q (F0 m pc ls vs) := by
  obtain ⟨hx, hb, hml, hown, hts, hK, hnm, hRf, hRl⟩ := C
  obtain ⟨hlo, hst, hE, hG, hlc⟩ := F
  obtain ⟨en, hd⟩ := q_dec (n := 2) hi rfl
  have hc := (q_rowI hi).2.2.1
  subst en
  cases ha : Nat.beq a1 0 with
  | false => rw [ha] at hs; cases hs
  | true =>
    cases hz : s_in32 (z, z) with
    | false => rw [ha, hz] at hs; cases hs
    | true =>
      rw [ha, hz] at hs
      simp only [c_I, ha, Bool.not_true, Bool.false_or] at hc
      exact lv_ldc hx hb hown (hts _ (wAt_mem hc)) hd (q_go hs kk ⟨hlo, ⟨_, _, rfl, ⟨_, rfl, by rw [s_in32S hz]; exact s_numS _⟩, hst⟩, hE, hG, hlc⟩)
theorem q_ldcw {ci : Nat} (C : q_Ctx p R s m args meth c dC dI dA Hb k) (hi : ins k pc = some (.ldc_w ci, nx, a1, a2, a3, z)) (hs : (bif Nat.beq a1 0 && s_in32 (z, z) then s_go nx lo (.inl (s_num z) :: st) E h else none : Option sS) = some (.inl l0)) (F : q_Fr dC dI dA rs ad Hb H0 (mL k) (pc, lo, st, E, h) ls vs H locs) (kk : q_KK p l e R s m args below meth c cells slots Q dC dI dA rs ad Hb H0 k l0) : W p l e R s m args below meth c H locs cells slots Q (F0 m pc ls vs) := by
  obtain ⟨hx, hb, hml, hown, hts, hK, hnm, hRf, hRl⟩ := C
  obtain ⟨hlo, hst, hE, hG, hlc⟩ := F
  obtain ⟨en, hd⟩ := q_dec (n := 3) hi rfl
  have hc := (q_rowI hi).2.2.1
  subst en
  cases ha : Nat.beq a1 0 with
  | false => rw [ha] at hs; cases hs
  | true =>
    cases hz : s_in32 (z, z) with
    | false => rw [ha, hz] at hs; cases hs
    | true =>
      rw [ha, hz] at hs
      simp only [c_I, ha, Bool.not_true, Bool.false_or] at hc
      exact lv_ldcw hx hb hown (hts _ (wAt_mem hc)) hd (q_go hs kk ⟨hlo, ⟨_, _, rfl, ⟨_, rfl, by rw [s_in32S hz]; exact s_numS _⟩, hst⟩, hE, hG, hlc⟩)
theorem q_ldc2 {ci : Nat} (C : q_Ctx p R s m args meth c dC dI dA Hb k) (hi : ins k pc = some (.ldc2_w ci, nx, a1, a2, a3, z)) (hs : (bif Nat.beq a1 0 && Nat.beq nx (pc + 3) then s_go nx lo (.inr (.inr (.inl (some z))) :: st) E h else none : Option sS) = some (.inl l0)) (F : q_Fr dC dI dA rs ad Hb H0 (mL k) (pc, lo, st, E, h) ls vs H locs) (kk : q_KK p l e R s m args below meth c cells slots Q dC dI dA rs ad Hb H0 k l0) : W p l e R s m args below meth c H locs cells slots Q (F0 m pc ls vs) := by
  obtain ⟨hx, hb, hml, hown, hts, hK, hnm, hRf, hRl⟩ := C
  obtain ⟨hlo, hst, hE, hG, hlc⟩ := F
  have hc := (q_rowI hi).2.2.1
  cases ha : Nat.beq a1 0 with
  | false => rw [ha] at hs; cases hs
  | true =>
    cases hn : Nat.beq nx (pc + 3) with
    | false => rw [ha, hn] at hs; cases hs
    | true =>
      rw [ha, hn] at hs
      have en := Nat.eq_of_beq_eq_true hn
      subst en
      have hd := q_dec2 (n := 3) hi rfl
      simp only [c_I, ha, Bool.not_true, Bool.false_or] at hc
      exact lv_ldc2 hx hb hown (hts _ (wAt_mem hc)) hd (q_go hs kk ⟨hlo, ⟨_, _, rfl, ⟨_, rfl, fun q hq => by cases hq; rfl⟩, hst⟩, hE, hG, hlc⟩)
theorem q_lconst {cf : Fin 2} (C : q_Ctx p R s m args meth c dC dI dA Hb k) (hi : ins k pc = some (.lconst cf, nx, a1, a2, a3, z)) (hs : (s_go nx lo (.inr (.inr (.inl none)) :: st) E h : Option sS) = some (.inl l0)) (F : q_Fr dC dI dA rs ad Hb H0 (mL k) (pc, lo, st, E, h) ls vs H locs) (kk : q_KK p l e R s m args below meth c cells slots Q dC dI dA rs ad Hb H0 k l0) : W p l e R s m args below meth c H locs cells slots Q (F0 m pc ls vs) := by
  obtain ⟨hx, hb, hml, hown, hts, hK, hnm, hRf, hRl⟩ := C
  obtain ⟨hlo, hst, hE, hG, hlc⟩ := F
  obtain ⟨en, hd⟩ := q_dec (n := 1) hi rfl
  subst en
  exact lv_lconst hx hb hd rfl (q_go hs kk ⟨hlo, ⟨_, _, rfl, ⟨_, rfl, fun q hq => by cases hq⟩, hst⟩, hE, hG, hlc⟩)
theorem q_iload_n {ci : Fin 4} (C : q_Ctx p R s m args meth c dC dI dA Hb k) (hi : ins k pc = some (.iload_n ci, nx, a1, a2, a3, z)) (hs : (s_gets lo ci.val 0 nx st E h : Option sS) = some (.inl l0)) (F : q_Fr dC dI dA rs ad Hb H0 (mL k) (pc, lo, st, E, h) ls vs H locs) (kk : q_KK p l e R s m args below meth c cells slots Q dC dI dA rs ad Hb H0 k l0) : W p l e R s m args below meth c H locs cells slots Q (F0 m pc ls vs) := by
  obtain ⟨hx, hb, hml, hown, hts, hK, hnm, hRf, hRl⟩ := C
  obtain ⟨hlo, hst, hE, hG, hlc⟩ := F
  obtain ⟨en, hd⟩ := q_dec (n := 1) hi rfl
  subst en
  unfold s_gets at hs
  split at hs
  · rename_i v hg
    simp only [Nat.beq, cond_true, cond_false] at hs
    obtain ⟨w, hw, y, rfl, hy⟩ := hlo.get hg
    exact lv_iload_n hx hb hd rfl hw (q_go hs kk ⟨hlo, ⟨_, _, rfl, ⟨y, rfl, hy⟩, hst⟩, hE, hG, hlc⟩)
  · rename_i v hg
    simp only [Nat.beq, cond_true, cond_false] at hs
    cases hs
  · rename_i v hg
    simp only [Nat.beq, cond_true, cond_false] at hs
    cases hs
  · cases hs
theorem q_iload {ci : Nat} (C : q_Ctx p R s m args meth c dC dI dA Hb k) (hi : ins k pc = some (.iload ci, nx, a1, a2, a3, z)) (hs : (s_gets lo ci 0 nx st E h : Option sS) = some (.inl l0)) (F : q_Fr dC dI dA rs ad Hb H0 (mL k) (pc, lo, st, E, h) ls vs H locs) (kk : q_KK p l e R s m args below meth c cells slots Q dC dI dA rs ad Hb H0 k l0) : W p l e R s m args below meth c H locs cells slots Q (F0 m pc ls vs) := by
  obtain ⟨hx, hb, hml, hown, hts, hK, hnm, hRf, hRl⟩ := C
  obtain ⟨hlo, hst, hE, hG, hlc⟩ := F
  obtain ⟨en, hd⟩ := q_dec (n := 2) hi rfl
  subst en
  unfold s_gets at hs
  split at hs
  · rename_i v hg
    simp only [Nat.beq, cond_true, cond_false] at hs
    obtain ⟨w, hw, y, rfl, hy⟩ := hlo.get hg
    exact lv_iload hx hb hd hw (q_go hs kk ⟨hlo, ⟨_, _, rfl, ⟨y, rfl, hy⟩, hst⟩, hE, hG, hlc⟩)
  · rename_i v hg
    simp only [Nat.beq, cond_true, cond_false] at hs
    cases hs
  · rename_i v hg
    simp only [Nat.beq, cond_true, cond_false] at hs
    cases hs
  · cases hs
theorem q_aload_n {ci : Fin 4} (C : q_Ctx p R s m args meth c dC dI dA Hb k) (hi : ins k pc = some (.aload_n ci, nx, a1, a2, a3, z)) (hs : (s_gets lo ci.val 1 nx st E h : Option sS) = some (.inl l0)) (F : q_Fr dC dI dA rs ad Hb H0 (mL k) (pc, lo, st, E, h) ls vs H locs) (kk : q_KK p l e R s m args below meth c cells slots Q dC dI dA rs ad Hb H0 k l0) : W p l e R s m args below meth c H locs cells slots Q (F0 m pc ls vs) := by
  obtain ⟨hx, hb, hml, hown, hts, hK, hnm, hRf, hRl⟩ := C
  obtain ⟨hlo, hst, hE, hG, hlc⟩ := F
  obtain ⟨en, hd⟩ := q_dec (n := 1) hi rfl
  subst en
  unfold s_gets at hs
  split at hs
  · rename_i v hg
    simp only [Nat.beq, cond_true, cond_false] at hs
    cases hs
  · rename_i v hg
    simp only [Nat.beq, cond_true, cond_false] at hs
    obtain ⟨w, hw, hy⟩ := hlo.get hg
    have hy2 : w = q_rf ad _ := hy
    subst hy2
    rcases v with _ | o
    · exact lv_aload_nN hx hb hd rfl hw (q_go hs kk ⟨hlo, ⟨_, _, rfl, rfl, hst⟩, hE, hG, hlc⟩)
    · exact lv_aload_n hx hb hd rfl hw (q_go hs kk ⟨hlo, ⟨_, _, rfl, rfl, hst⟩, hE, hG, hlc⟩)
  · rename_i v hg
    simp only [Nat.beq, cond_true, cond_false] at hs
    cases hs
  · cases hs
theorem q_aload {ci : Nat} (C : q_Ctx p R s m args meth c dC dI dA Hb k) (hi : ins k pc = some (.aload ci, nx, a1, a2, a3, z)) (hs : (s_gets lo ci 1 nx st E h : Option sS) = some (.inl l0)) (F : q_Fr dC dI dA rs ad Hb H0 (mL k) (pc, lo, st, E, h) ls vs H locs) (kk : q_KK p l e R s m args below meth c cells slots Q dC dI dA rs ad Hb H0 k l0) : W p l e R s m args below meth c H locs cells slots Q (F0 m pc ls vs) := by
  obtain ⟨hx, hb, hml, hown, hts, hK, hnm, hRf, hRl⟩ := C
  obtain ⟨hlo, hst, hE, hG, hlc⟩ := F
  obtain ⟨en, hd⟩ := q_dec (n := 2) hi rfl
  subst en
  unfold s_gets at hs
  split at hs
  · rename_i v hg
    simp only [Nat.beq, cond_true, cond_false] at hs
    cases hs
  · rename_i v hg
    simp only [Nat.beq, cond_true, cond_false] at hs
    obtain ⟨w, hw, hy⟩ := hlo.get hg
    have hy2 : w = q_rf ad _ := hy
    subst hy2
    rcases v with _ | o
    · exact lv_aloadN hx hb hd hw (q_go hs kk ⟨hlo, ⟨_, _, rfl, rfl, hst⟩, hE, hG, hlc⟩)
    · exact lv_aload hx hb hd hw (q_go hs kk ⟨hlo, ⟨_, _, rfl, rfl, hst⟩, hE, hG, hlc⟩)
  · rename_i v hg
    simp only [Nat.beq, cond_true, cond_false] at hs
    cases hs
  · cases hs
theorem q_lload_n {ci : Fin 4} (C : q_Ctx p R s m args meth c dC dI dA Hb k) (hi : ins k pc = some (.lload_n ci, nx, a1, a2, a3, z)) (hs : (s_gets lo ci.val 2 nx st E h : Option sS) = some (.inl l0)) (F : q_Fr dC dI dA rs ad Hb H0 (mL k) (pc, lo, st, E, h) ls vs H locs) (kk : q_KK p l e R s m args below meth c cells slots Q dC dI dA rs ad Hb H0 k l0) : W p l e R s m args below meth c H locs cells slots Q (F0 m pc ls vs) := by
  obtain ⟨hx, hb, hml, hown, hts, hK, hnm, hRf, hRl⟩ := C
  obtain ⟨hlo, hst, hE, hG, hlc⟩ := F
  obtain ⟨en, hd⟩ := q_dec (n := 1) hi rfl
  subst en
  unfold s_gets at hs
  split at hs
  · rename_i v hg
    simp only [Nat.beq, cond_true, cond_false] at hs
    cases hs
  · rename_i v hg
    simp only [Nat.beq, cond_true, cond_false] at hs
    cases hs
  · rename_i v hg
    simp only [Nat.beq, cond_true, cond_false] at hs
    obtain ⟨w, hw, y, rfl, hy⟩ := hlo.get hg
    exact lv_lload_n hx hb hd rfl hw (q_go hs kk ⟨hlo, ⟨_, _, rfl, ⟨y, rfl, hy⟩, hst⟩, hE, hG, hlc⟩)
  · cases hs
theorem q_lload {ci : Nat} (C : q_Ctx p R s m args meth c dC dI dA Hb k) (hi : ins k pc = some (.lload ci, nx, a1, a2, a3, z)) (hs : (bif Nat.beq nx (pc + 2) then s_gets lo ci 2 nx st E h else none : Option sS) = some (.inl l0)) (F : q_Fr dC dI dA rs ad Hb H0 (mL k) (pc, lo, st, E, h) ls vs H locs) (kk : q_KK p l e R s m args below meth c cells slots Q dC dI dA rs ad Hb H0 k l0) : W p l e R s m args below meth c H locs cells slots Q (F0 m pc ls vs) := by
  obtain ⟨hx, hb, hml, hown, hts, hK, hnm, hRf, hRl⟩ := C
  obtain ⟨hlo, hst, hE, hG, hlc⟩ := F
  cases hn : Nat.beq nx (pc + 2) with
  | false => rw [hn] at hs; cases hs
  | true =>
  have en := Nat.eq_of_beq_eq_true hn
  rw [hn] at hs
  subst en
  have hd := q_dec2 (n := 2) hi rfl
  simp only [cond_true] at hs
  unfold s_gets at hs
  split at hs
  · rename_i v hg
    simp only [Nat.beq, cond_true, cond_false] at hs
    cases hs
  · rename_i v hg
    simp only [Nat.beq, cond_true, cond_false] at hs
    cases hs
  · rename_i v hg
    simp only [Nat.beq, cond_true, cond_false] at hs
    obtain ⟨w, hw, y, rfl, hy⟩ := hlo.get hg
    exact lv_lload hx hb hd hw (q_go hs kk ⟨hlo, ⟨_, _, rfl, ⟨y, rfl, hy⟩, hst⟩, hE, hG, hlc⟩)
  · cases hs
theorem q_istore_n {ci : Fin 4} (C : q_Ctx p R s m args meth c dC dI dA Hb k) (hi : ins k pc = some (.istore_n ci, nx, a1, a2, a3, z)) (hs : (s_puts lo ci.val 0 nx (mL k) st E h : Option sS) = some (.inl l0)) (F : q_Fr dC dI dA rs ad Hb H0 (mL k) (pc, lo, st, E, h) ls vs H locs) (kk : q_KK p l e R s m args below meth c cells slots Q dC dI dA rs ad Hb H0 k l0) : W p l e R s m args below meth c H locs cells slots Q (F0 m pc ls vs) := by
  obtain ⟨hx, hb, hml, hown, hts, hK, hnm, hRf, hRl⟩ := C
  obtain ⟨hlo, hst, hE, hG, hlc⟩ := F
  obtain ⟨en, hd⟩ := q_dec (n := 1) hi rfl
  subst en
  unfold s_puts at hs
  split at hs
  · rename_i v rr
    simp only [Nat.beq, Bool.true_and, Bool.false_and, cond_false] at hs
    cases hn0 : Nat.blt (ci.val) (mL k) with
    | false => rw [hn0] at hs; cases hs
    | true =>
      have hn : ci.val < mL k := q_blt hn0
      rw [hn0] at hs
      obtain ⟨w, vs', rfl, ⟨y, rfl, hy⟩, hst'⟩ := hst
      exact lv_istore_n hx hb hd rfl hlo.has hn rfl (fun ls' h' => q_go hs kk ⟨hlo.put ⟨y, rfl, hy⟩ h', hst', hE, hG, hlc⟩)
  · rename_i v rr
    simp only [Nat.beq, Bool.true_and, Bool.false_and, cond_false] at hs
    cases hs
  · rename_i v rr
    simp only [Nat.beq, Bool.true_and, Bool.false_and, cond_false] at hs
    cases hs
  · cases hs
theorem q_istore {ci : Nat} (C : q_Ctx p R s m args meth c dC dI dA Hb k) (hi : ins k pc = some (.istore ci, nx, a1, a2, a3, z)) (hs : (s_puts lo ci 0 nx (mL k) st E h : Option sS) = some (.inl l0)) (F : q_Fr dC dI dA rs ad Hb H0 (mL k) (pc, lo, st, E, h) ls vs H locs) (kk : q_KK p l e R s m args below meth c cells slots Q dC dI dA rs ad Hb H0 k l0) : W p l e R s m args below meth c H locs cells slots Q (F0 m pc ls vs) := by
  obtain ⟨hx, hb, hml, hown, hts, hK, hnm, hRf, hRl⟩ := C
  obtain ⟨hlo, hst, hE, hG, hlc⟩ := F
  obtain ⟨en, hd⟩ := q_dec (n := 2) hi rfl
  subst en
  unfold s_puts at hs
  split at hs
  · rename_i v rr
    simp only [Nat.beq, Bool.true_and, Bool.false_and, cond_false] at hs
    cases hn0 : Nat.blt (ci) (mL k) with
    | false => rw [hn0] at hs; cases hs
    | true =>
      have hn : ci < mL k := q_blt hn0
      rw [hn0] at hs
      obtain ⟨w, vs', rfl, ⟨y, rfl, hy⟩, hst'⟩ := hst
      exact lv_istore hx hb hd hlo.has hn rfl (fun ls' h' => q_go hs kk ⟨hlo.put ⟨y, rfl, hy⟩ h', hst', hE, hG, hlc⟩)
  · rename_i v rr
    simp only [Nat.beq, Bool.true_and, Bool.false_and, cond_false] at hs
    cases hs
  · rename_i v rr
    simp only [Nat.beq, Bool.true_and, Bool.false_and, cond_false] at hs
    cases hs
  · cases hs
theorem q_astore_n {ci : Fin 4} (C : q_Ctx p R s m args meth c dC dI dA Hb k) (hi : ins k pc = some (.astore_n ci, nx, a1, a2, a3, z)) (hs : (s_puts lo ci.val 1 nx (mL k) st E h : Option sS) = some (.inl l0)) (F : q_Fr dC dI dA rs ad Hb H0 (mL k) (pc, lo, st, E, h) ls vs H locs) (kk : q_KK p l e R s m args below meth c cells slots Q dC dI dA rs ad Hb H0 k l0) : W p l e R s m args below meth c H locs cells slots Q (F0 m pc ls vs) := by
  obtain ⟨hx, hb, hml, hown, hts, hK, hnm, hRf, hRl⟩ := C
  obtain ⟨hlo, hst, hE, hG, hlc⟩ := F
  obtain ⟨en, hd⟩ := q_dec (n := 1) hi rfl
  subst en
  unfold s_puts at hs
  split at hs
  · rename_i v rr
    simp only [Nat.beq, Bool.true_and, Bool.false_and, cond_false] at hs
    cases hs
  · rename_i v rr
    simp only [Nat.beq, Bool.true_and, Bool.false_and, cond_false] at hs
    cases hn0 : Nat.blt (ci.val) (mL k) with
    | false => rw [hn0] at hs; cases hs
    | true =>
      have hn : ci.val < mL k := q_blt hn0
      rw [hn0] at hs
      obtain ⟨w, vs', rfl, hy, hst'⟩ := hst
      have hy2 : w = q_rf ad _ := hy
      subst hy2
      rcases v with _ | o
      · exact lv_astore_nN hx hb hd rfl hlo.has hn rfl (fun ls' h' => q_go hs kk ⟨hlo.put (a := .inr (.inl none)) rfl h', hst', hE, hG, hlc⟩)
      · exact lv_astore_n hx hb hd rfl hlo.has hn rfl (fun ls' h' => q_go hs kk ⟨hlo.put (a := .inr (.inl (some o))) rfl h', hst', hE, hG, hlc⟩)
  · rename_i v rr
    simp only [Nat.beq, Bool.true_and, Bool.false_and, cond_false] at hs
    cases hs
  · cases hs
theorem q_astore {ci : Nat} (C : q_Ctx p R s m args meth c dC dI dA Hb k) (hi : ins k pc = some (.astore ci, nx, a1, a2, a3, z)) (hs : (s_puts lo ci 1 nx (mL k) st E h : Option sS) = some (.inl l0)) (F : q_Fr dC dI dA rs ad Hb H0 (mL k) (pc, lo, st, E, h) ls vs H locs) (kk : q_KK p l e R s m args below meth c cells slots Q dC dI dA rs ad Hb H0 k l0) : W p l e R s m args below meth c H locs cells slots Q (F0 m pc ls vs) := by
  obtain ⟨hx, hb, hml, hown, hts, hK, hnm, hRf, hRl⟩ := C
  obtain ⟨hlo, hst, hE, hG, hlc⟩ := F
  obtain ⟨en, hd⟩ := q_dec (n := 2) hi rfl
  subst en
  unfold s_puts at hs
  split at hs
  · rename_i v rr
    simp only [Nat.beq, Bool.true_and, Bool.false_and, cond_false] at hs
    cases hs
  · rename_i v rr
    simp only [Nat.beq, Bool.true_and, Bool.false_and, cond_false] at hs
    cases hn0 : Nat.blt (ci) (mL k) with
    | false => rw [hn0] at hs; cases hs
    | true =>
      have hn : ci < mL k := q_blt hn0
      rw [hn0] at hs
      obtain ⟨w, vs', rfl, hy, hst'⟩ := hst
      have hy2 : w = q_rf ad _ := hy
      subst hy2
      rcases v with _ | o
      · exact lv_astoreN hx hb hd hlo.has hn rfl (fun ls' h' => q_go hs kk ⟨hlo.put (a := .inr (.inl none)) rfl h', hst', hE, hG, hlc⟩)
      · exact lv_astore hx hb hd hlo.has hn rfl (fun ls' h' => q_go hs kk ⟨hlo.put (a := .inr (.inl (some o))) rfl h', hst', hE, hG, hlc⟩)
  · rename_i v rr
    simp only [Nat.beq, Bool.true_and, Bool.false_and, cond_false] at hs
    cases hs
  · cases hs
theorem q_lstore_n {ci : Fin 4} (C : q_Ctx p R s m args meth c dC dI dA Hb k) (hi : ins k pc = some (.lstore_n ci, nx, a1, a2, a3, z)) (hs : (s_puts lo ci.val 2 nx (mL k) st E h : Option sS) = some (.inl l0)) (F : q_Fr dC dI dA rs ad Hb H0 (mL k) (pc, lo, st, E, h) ls vs H locs) (kk : q_KK p l e R s m args below meth c cells slots Q dC dI dA rs ad Hb H0 k l0) : W p l e R s m args below meth c H locs cells slots Q (F0 m pc ls vs) := by
  obtain ⟨hx, hb, hml, hown, hts, hK, hnm, hRf, hRl⟩ := C
  obtain ⟨hlo, hst, hE, hG, hlc⟩ := F
  obtain ⟨en, hd⟩ := q_dec (n := 1) hi rfl
  subst en
  unfold s_puts at hs
  split at hs
  · rename_i v rr
    simp only [Nat.beq, Bool.true_and, Bool.false_and, cond_false] at hs
    cases hs
  · rename_i v rr
    simp only [Nat.beq, Bool.true_and, Bool.false_and, cond_false] at hs
    cases hs
  · rename_i v rr
    simp only [Nat.beq, Bool.true_and, Bool.false_and, cond_false] at hs
    cases hn0 : Nat.blt (ci.val + 1) (mL k) with
    | false => rw [hn0] at hs; cases hs
    | true =>
      have hn : ci.val + 1 < mL k := q_blt hn0
      rw [hn0] at hs
      obtain ⟨w, vs', rfl, ⟨y, rfl, hy⟩, hst'⟩ := hst
      exact lv_lstore_n hx hb hd rfl hlo.has hn rfl (fun ls' h' => q_go hs kk ⟨hlo.put2 ⟨y, rfl, hy⟩ h', hst', hE, hG, hlc⟩)
  · cases hs
theorem q_lstore {ci : Nat} (C : q_Ctx p R s m args meth c dC dI dA Hb k) (hi : ins k pc = some (.lstore ci, nx, a1, a2, a3, z)) (hs : (bif Nat.beq nx (pc + 2) then s_puts lo ci 2 nx (mL k) st E h else none : Option sS) = some (.inl l0)) (F : q_Fr dC dI dA rs ad Hb H0 (mL k) (pc, lo, st, E, h) ls vs H locs) (kk : q_KK p l e R s m args below meth c cells slots Q dC dI dA rs ad Hb H0 k l0) : W p l e R s m args below meth c H locs cells slots Q (F0 m pc ls vs) := by
  obtain ⟨hx, hb, hml, hown, hts, hK, hnm, hRf, hRl⟩ := C
  obtain ⟨hlo, hst, hE, hG, hlc⟩ := F
  cases hn : Nat.beq nx (pc + 2) with
  | false => rw [hn] at hs; cases hs
  | true =>
  have en := Nat.eq_of_beq_eq_true hn
  rw [hn] at hs
  subst en
  have hd := q_dec2 (n := 2) hi rfl
  simp only [cond_true] at hs
  unfold s_puts at hs
  split at hs
  · rename_i v rr
    simp only [Nat.beq, Bool.true_and, Bool.false_and, cond_false] at hs
    cases hs
  · rename_i v rr
    simp only [Nat.beq, Bool.true_and, Bool.false_and, cond_false] at hs
    cases hs
  · rename_i v rr
    simp only [Nat.beq, Bool.true_and, Bool.false_and, cond_false] at hs
    cases hn0 : Nat.blt (ci + 1) (mL k) with
    | false => rw [hn0] at hs; cases hs
    | true =>
      have hn : ci + 1 < mL k := q_blt hn0
      rw [hn0] at hs
      obtain ⟨w, vs', rfl, ⟨y, rfl, hy⟩, hst'⟩ := hst
      exact lv_lstore hx hb hd hlo.has hn rfl (fun ls' h' => q_go hs kk ⟨hlo.put2 ⟨y, rfl, hy⟩ h', hst', hE, hG, hlc⟩)
  · cases hs
theorem q_iinc {ci : Nat} {cz : Int} (C : q_Ctx p R s m args meth c dC dI dA Hb k) (hi : ins k pc = some (.iinc ci cz, nx, a1, a2, a3, z)) (hs : ((match s_lget lo ci with
      | some (.inl v) => bif Nat.blt ci (mL k) && Nat.beq nx (pc + 3) && s_in32 (cz, cz) then (match s_sadd E v (s_num cz) with
        | (E1, w) => s_go nx (s_lset lo ci (.inl w)) st E1 h) else none
      | _ => none) : Option sS) = some (.inl l0)) (F : q_Fr dC dI dA rs ad Hb H0 (mL k) (pc, lo, st, E, h) ls vs H locs) (kk : q_KK p l e R s m args below meth c cells slots Q dC dI dA rs ad Hb H0 k l0) : W p l e R s m args below meth c H locs cells slots Q (F0 m pc ls vs) := by
  obtain ⟨hx, hb, hml, hown, hts, hK, hnm, hRf, hRl⟩ := C
  obtain ⟨hlo, hst, hE, hG, hlc⟩ := F
  obtain ⟨en, hd⟩ := q_dec (n := 3) hi rfl
  subst en
  split at hs
  · rename_i v hg
    cases hn0 : Nat.blt ci (mL k) with
    | false => rw [hn0] at hs; cases hs
    | true =>
      cases hz : s_in32 (cz, cz) with
      | false => rw [hn0, Nat.beq_refl, hz] at hs; cases hs
      | true =>
        have hn : ci < mL k := q_blt hn0
        rw [hn0, Nat.beq_refl, hz] at hs
        simp only [Bool.and_self, cond_true] at hs
        obtain ⟨w, hw, y, rfl, hy⟩ := hlo.get hg
        obtain ⟨j, hj⟩ := List.getElem?_of_mem (show (ci, Value.int y) ∈ q_lv ls lo from List.mem_map.mpr ⟨(ci, .inl v), q_lget hg, by simp [q_rv, hw]⟩)
        have hR := s_saddR (y := Int32.ofInt cz) (b := s_num cz) hE hy (by rw [s_in32S hz]; exact s_numS _)
        generalize s_sadd E v (s_num cz) = X at hs hR
        obtain ⟨E1, f⟩ := X
        obtain ⟨x, r1, r2, r3⟩ := hR
        exact lv_iinc hx hb hd hlo.has hj rfl hn rfl (fun ls' h' => q_goE (x := x) hs kk ⟨(hlo.mono x).put ⟨_, rfl, r2⟩ h', hst.mono x, r1, (hG.mono x).env r3, hlc⟩)
  · cases hs
theorem q_iadd  (C : q_Ctx p R s m args meth c dC dI dA Hb k) (hi : ins k pc = some (.iadd, nx, a1, a2, a3, z)) (hs : (s_op2 s_sadd nx lo st E h : Option sS) = some (.inl l0)) (F : q_Fr dC dI dA rs ad Hb H0 (mL k) (pc, lo, st, E, h) ls vs H locs) (kk : q_KK p l e R s m args below meth c cells slots Q dC dI dA rs ad Hb H0 k l0) : W p l e R s m args below meth c H locs cells slots Q (F0 m pc ls vs) := by
  obtain ⟨hx, hb, hml, hown, hts, hK, hnm, hRf, hRl⟩ := C
  obtain ⟨hlo, hst, hE, hG, hlc⟩ := F
  obtain ⟨en, hd⟩ := q_dec (n := 1) hi rfl
  subst en
  unfold s_op2 at hs
  split at hs
  · obtain ⟨w, vs', rfl, ⟨y, rfl, hy⟩, w2, vs2, rfl, ⟨x, rfl, hxx⟩, hst'⟩ := hst
    exact lv_iadd hx hb hd (q_gox hs kk (s_saddR hE hxx hy) hlo hst' hG hlc)
  · cases hs
theorem q_isub  (C : q_Ctx p R s m args meth c dC dI dA Hb k) (hi : ins k pc = some (.isub, nx, a1, a2, a3, z)) (hs : (s_op2 s_ssub nx lo st E h : Option sS) = some (.inl l0)) (F : q_Fr dC dI dA rs ad Hb H0 (mL k) (pc, lo, st, E, h) ls vs H locs) (kk : q_KK p l e R s m args below meth c cells slots Q dC dI dA rs ad Hb H0 k l0) : W p l e R s m args below meth c H locs cells slots Q (F0 m pc ls vs) := by
  obtain ⟨hx, hb, hml, hown, hts, hK, hnm, hRf, hRl⟩ := C
  obtain ⟨hlo, hst, hE, hG, hlc⟩ := F
  obtain ⟨en, hd⟩ := q_dec (n := 1) hi rfl
  subst en
  unfold s_op2 at hs
  split at hs
  · obtain ⟨w, vs', rfl, ⟨y, rfl, hy⟩, w2, vs2, rfl, ⟨x, rfl, hxx⟩, hst'⟩ := hst
    exact lv_isub hx hb hd (q_gox hs kk (s_ssubR hE hxx hy) hlo hst' hG hlc)
  · cases hs
theorem q_imul  (C : q_Ctx p R s m args meth c dC dI dA Hb k) (hi : ins k pc = some (.imul, nx, a1, a2, a3, z)) (hs : (s_op2 s_smul nx lo st E h : Option sS) = some (.inl l0)) (F : q_Fr dC dI dA rs ad Hb H0 (mL k) (pc, lo, st, E, h) ls vs H locs) (kk : q_KK p l e R s m args below meth c cells slots Q dC dI dA rs ad Hb H0 k l0) : W p l e R s m args below meth c H locs cells slots Q (F0 m pc ls vs) := by
  obtain ⟨hx, hb, hml, hown, hts, hK, hnm, hRf, hRl⟩ := C
  obtain ⟨hlo, hst, hE, hG, hlc⟩ := F
  obtain ⟨en, hd⟩ := q_dec (n := 1) hi rfl
  subst en
  unfold s_op2 at hs
  split at hs
  · obtain ⟨w, vs', rfl, ⟨y, rfl, hy⟩, w2, vs2, rfl, ⟨x, rfl, hxx⟩, hst'⟩ := hst
    exact lv_imul hx hb hd (q_gox hs kk (s_smulR hE hxx hy) hlo hst' hG hlc)
  · cases hs
theorem q_ior  (C : q_Ctx p R s m args meth c dC dI dA Hb k) (hi : ins k pc = some (.ior, nx, a1, a2, a3, z)) (hs : (s_op2 s_sor nx lo st E h : Option sS) = some (.inl l0)) (F : q_Fr dC dI dA rs ad Hb H0 (mL k) (pc, lo, st, E, h) ls vs H locs) (kk : q_KK p l e R s m args below meth c cells slots Q dC dI dA rs ad Hb H0 k l0) : W p l e R s m args below meth c H locs cells slots Q (F0 m pc ls vs) := by
  obtain ⟨hx, hb, hml, hown, hts, hK, hnm, hRf, hRl⟩ := C
  obtain ⟨hlo, hst, hE, hG, hlc⟩ := F
  obtain ⟨en, hd⟩ := q_dec (n := 1) hi rfl
  subst en
  unfold s_op2 at hs
  split at hs
  · obtain ⟨w, vs', rfl, ⟨y, rfl, hy⟩, w2, vs2, rfl, ⟨x, rfl, hxx⟩, hst'⟩ := hst
    exact lv_ior hx hb hd (q_gox hs kk (s_sorR hE hxx hy) hlo hst' hG hlc)
  · cases hs
theorem q_ixor  (C : q_Ctx p R s m args meth c dC dI dA Hb k) (hi : ins k pc = some (.ixor, nx, a1, a2, a3, z)) (hs : (s_op2 s_sxor nx lo st E h : Option sS) = some (.inl l0)) (F : q_Fr dC dI dA rs ad Hb H0 (mL k) (pc, lo, st, E, h) ls vs H locs) (kk : q_KK p l e R s m args below meth c cells slots Q dC dI dA rs ad Hb H0 k l0) : W p l e R s m args below meth c H locs cells slots Q (F0 m pc ls vs) := by
  obtain ⟨hx, hb, hml, hown, hts, hK, hnm, hRf, hRl⟩ := C
  obtain ⟨hlo, hst, hE, hG, hlc⟩ := F
  obtain ⟨en, hd⟩ := q_dec (n := 1) hi rfl
  subst en
  unfold s_op2 at hs
  split at hs
  · obtain ⟨w, vs', rfl, ⟨y, rfl, hy⟩, w2, vs2, rfl, ⟨x, rfl, hxx⟩, hst'⟩ := hst
    exact lv_ixor hx hb hd (q_gox hs kk (s_sxorR hE hxx hy) hlo hst' hG hlc)
  · cases hs
theorem q_ishl  (C : q_Ctx p R s m args meth c dC dI dA Hb k) (hi : ins k pc = some (.ishl, nx, a1, a2, a3, z)) (hs : (s_op2 s_sshl nx lo st E h : Option sS) = some (.inl l0)) (F : q_Fr dC dI dA rs ad Hb H0 (mL k) (pc, lo, st, E, h) ls vs H locs) (kk : q_KK p l e R s m args below meth c cells slots Q dC dI dA rs ad Hb H0 k l0) : W p l e R s m args below meth c H locs cells slots Q (F0 m pc ls vs) := by
  obtain ⟨hx, hb, hml, hown, hts, hK, hnm, hRf, hRl⟩ := C
  obtain ⟨hlo, hst, hE, hG, hlc⟩ := F
  obtain ⟨en, hd⟩ := q_dec (n := 1) hi rfl
  subst en
  unfold s_op2 at hs
  split at hs
  · obtain ⟨w, vs', rfl, ⟨y, rfl, hy⟩, w2, vs2, rfl, ⟨x, rfl, hxx⟩, hst'⟩ := hst
    exact lv_ishl hx hb hd (q_gox hs kk (s_sshlR hE hxx hy) hlo hst' hG hlc)
  · cases hs
theorem q_ishr  (C : q_Ctx p R s m args meth c dC dI dA Hb k) (hi : ins k pc = some (.ishr, nx, a1, a2, a3, z)) (hs : (s_op2 s_sshr2 nx lo st E h : Option sS) = some (.inl l0)) (F : q_Fr dC dI dA rs ad Hb H0 (mL k) (pc, lo, st, E, h) ls vs H locs) (kk : q_KK p l e R s m args below meth c cells slots Q dC dI dA rs ad Hb H0 k l0) : W p l e R s m args below meth c H locs cells slots Q (F0 m pc ls vs) := by
  obtain ⟨hx, hb, hml, hown, hts, hK, hnm, hRf, hRl⟩ := C
  obtain ⟨hlo, hst, hE, hG, hlc⟩ := F
  obtain ⟨en, hd⟩ := q_dec (n := 1) hi rfl
  subst en
  unfold s_op2 at hs
  split at hs
  · obtain ⟨w, vs', rfl, ⟨y, rfl, hy⟩, w2, vs2, rfl, ⟨x, rfl, hxx⟩, hst'⟩ := hst
    exact lv_ishr hx hb hd (q_gox hs kk (s_sshr2R hE hxx hy) hlo hst' hG hlc)
  · cases hs
theorem q_iushr  (C : q_Ctx p R s m args meth c dC dI dA Hb k) (hi : ins k pc = some (.iushr, nx, a1, a2, a3, z)) (hs : (s_op2 s_ushr nx lo st E h : Option sS) = some (.inl l0)) (F : q_Fr dC dI dA rs ad Hb H0 (mL k) (pc, lo, st, E, h) ls vs H locs) (kk : q_KK p l e R s m args below meth c cells slots Q dC dI dA rs ad Hb H0 k l0) : W p l e R s m args below meth c H locs cells slots Q (F0 m pc ls vs) := by
  obtain ⟨hx, hb, hml, hown, hts, hK, hnm, hRf, hRl⟩ := C
  obtain ⟨hlo, hst, hE, hG, hlc⟩ := F
  obtain ⟨en, hd⟩ := q_dec (n := 1) hi rfl
  subst en
  unfold s_op2 at hs
  split at hs
  · obtain ⟨w, vs', rfl, ⟨y, rfl, hy⟩, w2, vs2, rfl, ⟨x, rfl, hxx⟩, hst'⟩ := hst
    exact lv_iushr hx hb hd rfl (q_gox hs kk (s_ushrR hE hxx hy) hlo hst' hG hlc)
  · cases hs
theorem q_idiv  (C : q_Ctx p R s m args meth c dC dI dA Hb k) (hi : ins k pc = some (.idiv, nx, a1, a2, a3, z)) (hs : (s_op2o s_sdiv nx lo st E h : Option sS) = some (.inl l0)) (F : q_Fr dC dI dA rs ad Hb H0 (mL k) (pc, lo, st, E, h) ls vs H locs) (kk : q_KK p l e R s m args below meth c cells slots Q dC dI dA rs ad Hb H0 k l0) : W p l e R s m args below meth c H locs cells slots Q (F0 m pc ls vs) := by
  obtain ⟨hx, hb, hml, hown, hts, hK, hnm, hRf, hRl⟩ := C
  obtain ⟨hlo, hst, hE, hG, hlc⟩ := F
  obtain ⟨en, hd⟩ := q_dec (n := 1) hi rfl
  subst en
  unfold s_op2o at hs
  split at hs
  · obtain ⟨w, vs', rfl, ⟨y, rfl, hy⟩, w2, vs2, rfl, ⟨x, rfl, hxx⟩, hst'⟩ := hst
    split at hs
    · rename_i X hX
      obtain ⟨hne, hR⟩ := s_sdivR hE hxx hy hX
      exact lv_idiv hx hb hd hne (q_gox hs kk hR hlo hst' hG hlc)
    · cases hs
  · cases hs
theorem q_irem  (C : q_Ctx p R s m args meth c dC dI dA Hb k) (hi : ins k pc = some (.irem, nx, a1, a2, a3, z)) (hs : (s_op2o s_srem nx lo st E h : Option sS) = some (.inl l0)) (F : q_Fr dC dI dA rs ad Hb H0 (mL k) (pc, lo, st, E, h) ls vs H locs) (kk : q_KK p l e R s m args below meth c cells slots Q dC dI dA rs ad Hb H0 k l0) : W p l e R s m args below meth c H locs cells slots Q (F0 m pc ls vs) := by
  obtain ⟨hx, hb, hml, hown, hts, hK, hnm, hRf, hRl⟩ := C
  obtain ⟨hlo, hst, hE, hG, hlc⟩ := F
  obtain ⟨en, hd⟩ := q_dec (n := 1) hi rfl
  subst en
  unfold s_op2o at hs
  split at hs
  · obtain ⟨w, vs', rfl, ⟨y, rfl, hy⟩, w2, vs2, rfl, ⟨x, rfl, hxx⟩, hst'⟩ := hst
    split at hs
    · rename_i X hX
      obtain ⟨hne, hR⟩ := s_sremR hE hxx hy hX
      exact lv_irem hx hb hd hne (q_gox hs kk hR hlo hst' hG hlc)
    · cases hs
  · cases hs
theorem q_ineg  (C : q_Ctx p R s m args meth c dC dI dA Hb k) (hi : ins k pc = some (.ineg, nx, a1, a2, a3, z)) (hs : (s_op1 s_sneg nx lo st E h : Option sS) = some (.inl l0)) (F : q_Fr dC dI dA rs ad Hb H0 (mL k) (pc, lo, st, E, h) ls vs H locs) (kk : q_KK p l e R s m args below meth c cells slots Q dC dI dA rs ad Hb H0 k l0) : W p l e R s m args below meth c H locs cells slots Q (F0 m pc ls vs) := by
  obtain ⟨hx, hb, hml, hown, hts, hK, hnm, hRf, hRl⟩ := C
  obtain ⟨hlo, hst, hE, hG, hlc⟩ := F
  obtain ⟨en, hd⟩ := q_dec (n := 1) hi rfl
  subst en
  unfold s_op1 at hs
  split at hs
  · obtain ⟨w, vs', rfl, ⟨x, rfl, hxx⟩, hst'⟩ := hst
    exact lv_ineg hx hb hd (q_gox hs kk (s_snegR hE hxx) hlo hst' hG hlc)
  · cases hs
theorem q_i2bB (x : Int32) : (-128 : Int) ≤ (x.toInt8.toInt32).toInt ∧ (x.toInt8.toInt32).toInt ≤ 127 ∧ ((-128 : Int) ≤ x.toInt → x.toInt ≤ 127 → x.toInt8.toInt32 = x) := by
  have e : (x.toInt8.toInt32).toInt = Int.bmod x.toInt 256 := by
    rw [Int8.toInt_toInt32, Int32.toInt_toInt8]
  have b := Int.bmod_def x.toInt 256
  refine ⟨by rw [e, b]; split <;> omega, by rw [e, b]; split <;> omega, fun h1 h2 => Int32.toInt_inj.mp ?_⟩
  rw [e, b]
  split <;> omega
theorem q_i2sB (x : Int32) : (-32768 : Int) ≤ (x.toInt16.toInt32).toInt ∧ (x.toInt16.toInt32).toInt ≤ 32767 ∧ ((-32768 : Int) ≤ x.toInt → x.toInt ≤ 32767 → x.toInt16.toInt32 = x) := by
  have e : (x.toInt16.toInt32).toInt = Int.bmod x.toInt 65536 := by
    rw [Int16.toInt_toInt32, Int32.toInt_toInt16]
  have b := Int.bmod_def x.toInt 65536
  refine ⟨by rw [e, b]; split <;> omega, by rw [e, b]; split <;> omega, fun h1 h2 => Int32.toInt_inj.mp ?_⟩
  rw [e, b]
  split <;> omega
theorem q_i2cB (x : Int32) : (0 : Int) ≤ ((x.toUInt32 % 65536).toInt32).toInt ∧ ((x.toUInt32 % 65536).toInt32).toInt ≤ 65535 ∧ ((0 : Int) ≤ x.toInt → x.toInt ≤ 65535 → (x.toUInt32 % 65536).toInt32 = x) := by
  have eN : ((x.toUInt32 % 65536).toInt32).toBitVec.toNat = x.toBitVec.toNat % 65536 := by
    show (x.toUInt32 % 65536).toBitVec.toNat = _
    rw [UInt32.toBitVec_mod, BitVec.toNat_umod]
    rfl
  have e := s_ofnat (z := (x.toUInt32 % 65536).toInt32) (by rw [eN]; omega)
  rw [eN] at e
  refine ⟨by omega, by omega, fun h1 h2 => Int32.toInt_inj.mp ?_⟩
  obtain ⟨x1, x2⟩ := s_nat h1
  rw [e]
  omega
theorem q_i2b  (C : q_Ctx p R s m args meth c dC dI dA Hb k) (hi : ins k pc = some (.i2b, nx, a1, a2, a3, z)) (hs : (s_op1 (s_conv (-128) 127) nx lo st E h : Option sS) = some (.inl l0)) (F : q_Fr dC dI dA rs ad Hb H0 (mL k) (pc, lo, st, E, h) ls vs H locs) (kk : q_KK p l e R s m args below meth c cells slots Q dC dI dA rs ad Hb H0 k l0) : W p l e R s m args below meth c H locs cells slots Q (F0 m pc ls vs) := by
  obtain ⟨hx, hb, hml, hown, hts, hK, hnm, hRf, hRl⟩ := C
  obtain ⟨hlo, hst, hE, hG, hlc⟩ := F
  obtain ⟨en, hd⟩ := q_dec (n := 1) hi rfl
  subst en
  unfold s_op1 at hs
  split at hs
  · obtain ⟨w, vs', rfl, ⟨x, rfl, hxx⟩, hst'⟩ := hst
    exact lv_i2b hx hb hd rfl (q_gox hs kk (s_convR (f := fun x => x.toInt8.toInt32) hE hxx (q_i2bB x).1 (q_i2bB x).2.1 (q_i2bB x).2.2) hlo hst' hG hlc)
  · cases hs
theorem q_i2s  (C : q_Ctx p R s m args meth c dC dI dA Hb k) (hi : ins k pc = some (.i2s, nx, a1, a2, a3, z)) (hs : (s_op1 (s_conv (-32768) 32767) nx lo st E h : Option sS) = some (.inl l0)) (F : q_Fr dC dI dA rs ad Hb H0 (mL k) (pc, lo, st, E, h) ls vs H locs) (kk : q_KK p l e R s m args below meth c cells slots Q dC dI dA rs ad Hb H0 k l0) : W p l e R s m args below meth c H locs cells slots Q (F0 m pc ls vs) := by
  obtain ⟨hx, hb, hml, hown, hts, hK, hnm, hRf, hRl⟩ := C
  obtain ⟨hlo, hst, hE, hG, hlc⟩ := F
  obtain ⟨en, hd⟩ := q_dec (n := 1) hi rfl
  subst en
  unfold s_op1 at hs
  split at hs
  · obtain ⟨w, vs', rfl, ⟨x, rfl, hxx⟩, hst'⟩ := hst
    exact lv_i2s hx hb hd rfl (q_gox hs kk (s_convR (f := fun x => x.toInt16.toInt32) hE hxx (q_i2sB x).1 (q_i2sB x).2.1 (q_i2sB x).2.2) hlo hst' hG hlc)
  · cases hs
theorem q_i2c  (C : q_Ctx p R s m args meth c dC dI dA Hb k) (hi : ins k pc = some (.i2c, nx, a1, a2, a3, z)) (hs : (s_op1 (s_conv 0 65535) nx lo st E h : Option sS) = some (.inl l0)) (F : q_Fr dC dI dA rs ad Hb H0 (mL k) (pc, lo, st, E, h) ls vs H locs) (kk : q_KK p l e R s m args below meth c cells slots Q dC dI dA rs ad Hb H0 k l0) : W p l e R s m args below meth c H locs cells slots Q (F0 m pc ls vs) := by
  obtain ⟨hx, hb, hml, hown, hts, hK, hnm, hRf, hRl⟩ := C
  obtain ⟨hlo, hst, hE, hG, hlc⟩ := F
  obtain ⟨en, hd⟩ := q_dec (n := 1) hi rfl
  subst en
  unfold s_op1 at hs
  split at hs
  · obtain ⟨w, vs', rfl, ⟨x, rfl, hxx⟩, hst'⟩ := hst
    exact lv_i2c hx hb hd rfl (q_gox hs kk (s_convR (f := fun x => (x.toUInt32 % 65536).toInt32) hE hxx (q_i2cB x).1 (q_i2cB x).2.1 (q_i2cB x).2.2) hlo hst' hG hlc)
  · cases hs
theorem q_i2l  (C : q_Ctx p R s m args meth c dC dI dA Hb k) (hi : ins k pc = some (.i2l, nx, a1, a2, a3, z)) (hs : ((match st with
      | .inl _ :: r => s_go nx lo (.inr (.inr (.inl none)) :: r) E h
      | _ => none) : Option sS) = some (.inl l0)) (F : q_Fr dC dI dA rs ad Hb H0 (mL k) (pc, lo, st, E, h) ls vs H locs) (kk : q_KK p l e R s m args below meth c cells slots Q dC dI dA rs ad Hb H0 k l0) : W p l e R s m args below meth c H locs cells slots Q (F0 m pc ls vs) := by
  obtain ⟨hx, hb, hml, hown, hts, hK, hnm, hRf, hRl⟩ := C
  obtain ⟨hlo, hst, hE, hG, hlc⟩ := F
  obtain ⟨en, hd⟩ := q_dec (n := 1) hi rfl
  subst en
  split at hs
  · obtain ⟨w, vs', rfl, ⟨x, rfl, hxx⟩, hst'⟩ := hst
    exact lv_i2l hx hb hd rfl (q_go hs kk ⟨hlo, ⟨_, _, rfl, ⟨_, rfl, fun q hq => by cases hq⟩, hst'⟩, hE, hG, hlc⟩)
  · cases hs
theorem q_l2i  (C : q_Ctx p R s m args meth c dC dI dA Hb k) (hi : ins k pc = some (.l2i, nx, a1, a2, a3, z)) (hs : ((match st with
      | .inr (.inr (.inl _)) :: r => s_gox nx lo r (s_new E s_any) h
      | _ => none) : Option sS) = some (.inl l0)) (F : q_Fr dC dI dA rs ad Hb H0 (mL k) (pc, lo, st, E, h) ls vs H locs) (kk : q_KK p l e R s m args below meth c cells slots Q dC dI dA rs ad Hb H0 k l0) : W p l e R s m args below meth c H locs cells slots Q (F0 m pc ls vs) := by
  obtain ⟨hx, hb, hml, hown, hts, hK, hnm, hRf, hRl⟩ := C
  obtain ⟨hlo, hst, hE, hG, hlc⟩ := F
  obtain ⟨en, hd⟩ := q_dec (n := 1) hi rfl
  subst en
  split at hs
  · obtain ⟨w, vs', rfl, ⟨x, rfl, hxx⟩, hst'⟩ := hst
    exact lv_l2i hx hb hd rfl (q_gox hs kk (s_anyR hE) hlo hst' hG hlc)
  · cases hs
theorem q_ladd  (C : q_Ctx p R s m args meth c dC dI dA Hb k) (hi : ins k pc = some (.ladd, nx, a1, a2, a3, z)) (hs : (s_lop2 nx lo st E h : Option sS) = some (.inl l0)) (F : q_Fr dC dI dA rs ad Hb H0 (mL k) (pc, lo, st, E, h) ls vs H locs) (kk : q_KK p l e R s m args below meth c cells slots Q dC dI dA rs ad Hb H0 k l0) : W p l e R s m args below meth c H locs cells slots Q (F0 m pc ls vs) := by
  obtain ⟨hx, hb, hml, hown, hts, hK, hnm, hRf, hRl⟩ := C
  obtain ⟨hlo, hst, hE, hG, hlc⟩ := F
  obtain ⟨en, hd⟩ := q_dec (n := 1) hi rfl
  subst en
  unfold s_lop2 at hs
  split at hs
  · obtain ⟨w, vs', rfl, ⟨y, rfl, -⟩, w2, vs2, rfl, ⟨x, rfl, -⟩, hst'⟩ := hst
    exact lv_ladd hx hb hd (q_go hs kk ⟨hlo, ⟨_, _, rfl, ⟨_, rfl, fun q hq => by cases hq⟩, hst'⟩, hE, hG, hlc⟩)
  · cases hs
theorem q_lmul  (C : q_Ctx p R s m args meth c dC dI dA Hb k) (hi : ins k pc = some (.lmul, nx, a1, a2, a3, z)) (hs : (s_lop2 nx lo st E h : Option sS) = some (.inl l0)) (F : q_Fr dC dI dA rs ad Hb H0 (mL k) (pc, lo, st, E, h) ls vs H locs) (kk : q_KK p l e R s m args below meth c cells slots Q dC dI dA rs ad Hb H0 k l0) : W p l e R s m args below meth c H locs cells slots Q (F0 m pc ls vs) := by
  obtain ⟨hx, hb, hml, hown, hts, hK, hnm, hRf, hRl⟩ := C
  obtain ⟨hlo, hst, hE, hG, hlc⟩ := F
  obtain ⟨en, hd⟩ := q_dec (n := 1) hi rfl
  subst en
  unfold s_lop2 at hs
  split at hs
  · obtain ⟨w, vs', rfl, ⟨y, rfl, -⟩, w2, vs2, rfl, ⟨x, rfl, -⟩, hst'⟩ := hst
    exact lv_lmul hx hb hd (q_go hs kk ⟨hlo, ⟨_, _, rfl, ⟨_, rfl, fun q hq => by cases hq⟩, hst'⟩, hE, hG, hlc⟩)
  · cases hs
theorem q_ldiv  (C : q_Ctx p R s m args meth c dC dI dA Hb k) (hi : ins k pc = some (.ldiv, nx, a1, a2, a3, z)) (hs : (s_ldv nx lo st E h : Option sS) = some (.inl l0)) (F : q_Fr dC dI dA rs ad Hb H0 (mL k) (pc, lo, st, E, h) ls vs H locs) (kk : q_KK p l e R s m args below meth c cells slots Q dC dI dA rs ad Hb H0 k l0) : W p l e R s m args below meth c H locs cells slots Q (F0 m pc ls vs) := by
  obtain ⟨hx, hb, hml, hown, hts, hK, hnm, hRf, hRl⟩ := C
  obtain ⟨hlo, hst, hE, hG, hlc⟩ := F
  obtain ⟨en, hd⟩ := q_dec (n := 1) hi rfl
  subst en
  unfold s_ldv at hs
  split at hs
  · rename_i zz zo rr
    obtain ⟨w, vs', rfl, ⟨y, rfl, hy⟩, w2, vs2, rfl, ⟨x, rfl, -⟩, hst'⟩ := hst
    cases h0 : decide (Int64.ofInt zz = 0) with
    | true => rw [h0] at hs; cases hs
    | false =>
      rw [h0] at hs
      have hne : ¬ y = 0 := by
        rw [hy zz rfl]
        exact of_decide_eq_false h0
      exact lv_ldiv hx hb hd hne (q_go hs kk ⟨hlo, ⟨_, _, rfl, ⟨_, rfl, fun q hq => by cases hq⟩, hst'⟩, hE, hG, hlc⟩)
  · cases hs
theorem q_lrem  (C : q_Ctx p R s m args meth c dC dI dA Hb k) (hi : ins k pc = some (.lrem, nx, a1, a2, a3, z)) (hs : (s_ldv nx lo st E h : Option sS) = some (.inl l0)) (F : q_Fr dC dI dA rs ad Hb H0 (mL k) (pc, lo, st, E, h) ls vs H locs) (kk : q_KK p l e R s m args below meth c cells slots Q dC dI dA rs ad Hb H0 k l0) : W p l e R s m args below meth c H locs cells slots Q (F0 m pc ls vs) := by
  obtain ⟨hx, hb, hml, hown, hts, hK, hnm, hRf, hRl⟩ := C
  obtain ⟨hlo, hst, hE, hG, hlc⟩ := F
  obtain ⟨en, hd⟩ := q_dec (n := 1) hi rfl
  subst en
  unfold s_ldv at hs
  split at hs
  · rename_i zz zo rr
    obtain ⟨w, vs', rfl, ⟨y, rfl, hy⟩, w2, vs2, rfl, ⟨x, rfl, -⟩, hst'⟩ := hst
    cases h0 : decide (Int64.ofInt zz = 0) with
    | true => rw [h0] at hs; cases hs
    | false =>
      rw [h0] at hs
      have hne : ¬ y = 0 := by
        rw [hy zz rfl]
        exact of_decide_eq_false h0
      exact lv_lrem hx hb hd hne (q_go hs kk ⟨hlo, ⟨_, _, rfl, ⟨_, rfl, fun q hq => by cases hq⟩, hst'⟩, hE, hG, hlc⟩)
  · cases hs
end Step
