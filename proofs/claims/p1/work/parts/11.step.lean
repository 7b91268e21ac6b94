/-! Each step of the machine is a step of the true one. -/
def c_lenI : Instr → Option Nat
  | .iconst _ => some 1
  | .bipush _ => some 2
  | .sipush _ => some 3
  | .ldc _ => some 2
  | .ldc_w _ => some 3
  | .iload_n _ => some 1
  | .aload_n _ => some 1
  | .istore_n _ => some 1
  | .astore_n _ => some 1
  | .iload _ => some 2
  | .aload _ => some 2
  | .istore _ => some 2
  | .astore _ => some 2
  | .iinc _ _ => some 3
  | .ifCond _ _ => some 3
  | .if_icmp _ _ => some 3
  | .goto _ => some 3
  | .tableswitch _ _ _ _ => none
  | .lookupswitch _ _ => none
  | .ldc2_w _ => none
  | .lload _ => none
  | .lstore _ => none
  | .ifnull _ => none
  | .ifnonnull _ => none
  | .getfield _ => some 3
  | .putfield _ => some 3
  | .new _ => some 3
  | .newarray _ => some 2
  | .multianewarray _ _ => some 4
  | .invokestatic _ => some 3
  | .invokevirtual _ => some 3
  | .invokespecial _ => some 3
  | _ => some 1
/-- what rows are made -/
def c_naI : Instr → Bool
  | .newarray .float => false
  | .newarray .double => false
  | .newarray .short => false
  | _ => true
def c_len (k : Nat) : Bool := (List.range (mN k)).all (fun pc => match ins k pc with
  | none => true
  | some q => c_naI q.1 && (match c_lenI q.1 with
    | none => true
    | some n => Nat.beq q.2.1 (pc + n)))
set_option maxRecDepth 1000000 in
theorem c_len0 : ∀ k, k < 60 → c_len (0 + k) = true := by decide +kernel
set_option maxRecDepth 1000000 in
theorem c_len1 : ∀ k, k < 60 → c_len (60 + k) = true := by decide +kernel
set_option maxRecDepth 1000000 in
theorem c_len2 : ∀ k, k < 60 → c_len (120 + k) = true := by decide +kernel
set_option maxRecDepth 1000000 in
theorem c_len3 : ∀ k, k < 60 → c_len (180 + k) = true := by decide +kernel
set_option maxRecDepth 1000000 in
theorem c_len4 : ∀ k, k < 60 → c_len (240 + k) = true := by decide +kernel
set_option maxRecDepth 1000000 in
theorem c_len5 : ∀ k, k < 3 → c_len (300 + k) = true := by decide +kernel
theorem c_lenA (k : Nat) (hk : k < 303) : c_len k = true := by
  by_cases h0 : k < 60
  · have := c_len0 (k - 0) (by omega); rwa [show 0 + (k - 0) = k by omega] at this
  by_cases h1 : k < 120
  · have := c_len1 (k - 60) (by omega); rwa [show 60 + (k - 60) = k by omega] at this
  by_cases h2 : k < 180
  · have := c_len2 (k - 120) (by omega); rwa [show 120 + (k - 120) = k by omega] at this
  by_cases h3 : k < 240
  · have := c_len3 (k - 180) (by omega); rwa [show 180 + (k - 180) = k by omega] at this
  by_cases h4 : k < 300
  · have := c_len4 (k - 240) (by omega); rwa [show 240 + (k - 240) = k by omega] at this
  by_cases h5 : k < 303
  · have := c_len5 (k - 300) (by omega); rwa [show 300 + (k - 300) = k by omega] at this
  omega
theorem q_blt {a b : Nat} (h : Nat.blt a b = true) : a < b := Nat.le_of_ble_eq_true h
theorem q_ins {k pc : Nat} {q : pR} (hi : ins k pc = some q) : k < 303 ∧ pc < mN k := by
  unfold ins at hi
  cases h1 : Nat.blt k nMth with
  | false => rw [h1] at hi; cases hi
  | true =>
    rw [h1] at hi
    cases h2 : Nat.blt pc (mth k).2.2.1 with
    | false => rw [h2] at hi; cases hi
    | true => exact ⟨q_blt h1, q_blt h2⟩
theorem q_row {k pc : Nat} {q : pR} (hk0 : k < 300) (hi : ins k pc = some q) : pc < q.2.1 ∧ decode (mC k) pc = .ok (q.1, q.2.1 - pc) ∧ c_I k pc q = true ∧ (∀ n, c_lenI q.1 = some n → q.2.1 = pc + n) ∧ c_naI q.1 = true := by
  obtain ⟨hk, hp⟩ := q_ins hi
  have h2 := c_rows k hk0 pc hp
  simp only [c_row, hi, Bool.and_eq_true, decide_eq_true_eq] at h2
  have h3 := List.all_eq_true.mp (c_lenA k hk) pc (List.mem_range.mpr hp)
  simp only [hi, Bool.and_eq_true] at h3
  refine ⟨q_blt h2.1.1, h2.1.2, h2.2, fun n hn => ?_, h3.1⟩
  have h4 := h3.2
  simp only [hn] at h4
  exact Nat.eq_of_beq_eq_true h4
theorem q_dec {k pc n : Nat} {q : pR} (hk0 : k < 300) (hi : ins k pc = some q) (hn : c_lenI q.1 = some n) : q.2.1 = pc + n ∧ decode (mC k) pc = .ok (q.1, n) := by
  obtain ⟨h1, h2, h3, h4, -⟩ := q_row hk0 hi
  have e := h4 n hn
  refine ⟨e, ?_⟩
  rw [h2, e]
  congr 2
  omega
theorem q_meth {k : Nat} (hk : k < 299) (hp : c_plain k = true) : c_M k = true := by
  have h := c_all k hk
  simp only [c_meth, Bool.and_eq_true, Bool.or_eq_true] at h
  rcases h.1 with h1 | h1
  · rw [hp] at h1
    cases h1
  · exact h1
def q_Ctx (p : Program) (R : Room) (s : State) (m : MethodId) (args : Array Value) (meth : Method) (c : Code) (dC : Nat → ClassId) (dI : Nat → Nat → Nat) (dA : FieldType → ClassId) (r : Nat → Int32) (b base L : Nat) (Hb : Heap) (k : Nat) : Prop :=
  p.tables.exec = Jvm.exec ∧ c.code = mC k ∧ c.maxLocals = mL k ∧ s.vm.findClass (mY k).cls = some m.cls ∧ (∀ w ∈ tb, w.before args s = true) ∧ q_K dC dI dA r b L Hb s ∧ ((mY k).name = "<init>" → meth.name = "<init>") ∧ b < base ∧ 8 ≤ R.frames ∧ 400 ≤ R.locals ∧ k < 300
def q_Fr (dC : Nat → ClassId) (dI : Nat → Nat → Nat) (dA : FieldType → ClassId) (r : Nat → Int32) (b base : Nat) (Hb : Heap) (nL : Nat) (f : pF) (ls : Array Slot) (vs : List Value) (H : Heap) (locs : List Loc) : Prop :=
  q_Lo r b base f.2.1 ls nL ∧ q_L r b base f.2.2.1 vs ∧ q_E r f.2.2.2.1 ∧ q_G dC dI dA r b base Hb f.2.2.2.1 f.2.2.2.2 H ∧ ∀ q ∈ locs, base ≤ q.base
section Step
variable {p : Program} {l : Launch} {e : Env} {R : Room} {s : State} {m : MethodId} {args : Array Value} {below : List Frame} {meth : Method} {c : Code} {H : Heap} {locs : List Loc} {cells slots : Nat} {Q : State → Prop}
variable {dC : Nat → ClassId} {dI : Nat → Nat → Nat} {dA : FieldType → ClassId} {r : Nat → Int32} {b base L : Nat} {Hb : Heap} {k pc nx a1 a2 a3 : Nat} {z : Int} {lo : pL} {st : List pA} {E : pE} {h : pH} {ls : Array Slot} {vs : List Value} {l0 : List (Nat × Nat × pF)}
/-- what is to be shown behind a step -/
abbrev q_KK (p : Program) (l : Launch) (e : Env) (R : Room) (s : State) (m : MethodId) (args : Array Value) (below : List Frame) (meth : Method) (c : Code) (cells slots : Nat) (Q : State → Prop) (dC : Nat → ClassId) (dI : Nat → Nat → Nat) (dA : FieldType → ClassId) (r : Nat → Int32) (b base : Nat) (Hb : Heap) (k : Nat) (l0 : List (Nat × Nat × pF)) : Prop :=
  ∀ q ∈ l0, ∀ (ls : Array Slot) (vs : List Value) (H : Heap) (locs : List Loc), q_Fr dC dI dA r b base Hb (mL k) q.2.2 ls vs H locs → W p l e R s m args below meth c H locs (cells + q.1) (slots + q.2.1) Q (F0 m q.2.2.1 ls vs)
theorem q_go {st' : List pA} {lo' : pL} {E' : pE} {h' : pH} {ls' : Array Slot} {vs' : List Value} {H' : Heap} {locs' : List Loc} (hs : p_go nx lo' st' E' h' = some (.inl l0)) (kk : q_KK p l e R s m args below meth c cells slots Q dC dI dA r b base Hb k l0) (F' : q_Fr dC dI dA r b base Hb (mL k) (nx, lo', st', E', h') ls' vs' H' locs') : W p l e R s m args below meth c H' locs' cells slots Q (F0 m nx ls' vs') := by
  cases hs
  exact kk _ (List.mem_singleton.mpr rfl) ls' vs' H' locs' F' 
theorem q_iconst {cz : Int} (C : q_Ctx p R s m args meth c dC dI dA r b base L Hb k) (hi : ins k pc = some (.iconst cz, nx, a1, a2, a3, z)) (hs : (p_go nx lo (.inl (.inl cz) :: st) E h : Option pS) = some (.inl l0)) (F : q_Fr dC dI dA r b base Hb (mL k) (pc, lo, st, E, h) ls vs H locs) (kk : q_KK p l e R s m args below meth c cells slots Q dC dI dA r b base Hb k l0) : W p l e R s m args below meth c H locs cells slots Q (F0 m pc ls vs) := by
  obtain ⟨hx, hb, hml, hown, hts, hK, hnm, hbb, hRf, hRl, hk9⟩ := C
  obtain ⟨hlo, hst, hE, hG, hlc⟩ := F
  obtain ⟨en, hd⟩ := q_dec (n := 1) hk9 hi rfl
  subst en
  exact lv_iconst hx hb hd rfl (q_go hs kk ⟨hlo, ⟨_, _, rfl, ⟨_, rfl, rfl⟩, hst⟩, hE, hG, hlc⟩)
theorem q_bipush {cz : Int} (C : q_Ctx p R s m args meth c dC dI dA r b base L Hb k) (hi : ins k pc = some (.bipush cz, nx, a1, a2, a3, z)) (hs : (p_go nx lo (.inl (p_num (Int8.ofInt cz).toInt32.toInt) :: st) E h : Option pS) = some (.inl l0)) (F : q_Fr dC dI dA r b base Hb (mL k) (pc, lo, st, E, h) ls vs H locs) (kk : q_KK p l e R s m args below meth c cells slots Q dC dI dA r b base Hb k l0) : W p l e R s m args below meth c H locs cells slots Q (F0 m pc ls vs) := by
  obtain ⟨hx, hb, hml, hown, hts, hK, hnm, hbb, hRf, hRl, hk9⟩ := C
  obtain ⟨hlo, hst, hE, hG, hlc⟩ := F
  obtain ⟨en, hd⟩ := q_dec (n := 2) hk9 hi rfl
  subst en
  exact lv_bipush hx hb hd rfl (q_go hs kk ⟨hlo, ⟨_, _, rfl, ⟨_, rfl, q_numV _⟩, hst⟩, hE, hG, hlc⟩)
theorem q_sipush {cz : Int} (C : q_Ctx p R s m args meth c dC dI dA r b base L Hb k) (hi : ins k pc = some (.sipush cz, nx, a1, a2, a3, z)) (hs : (p_go nx lo (.inl (p_num (Int16.ofInt cz).toInt32.toInt) :: st) E h : Option pS) = some (.inl l0)) (F : q_Fr dC dI dA r b base Hb (mL k) (pc, lo, st, E, h) ls vs H locs) (kk : q_KK p l e R s m args below meth c cells slots Q dC dI dA r b base Hb k l0) : W p l e R s m args below meth c H locs cells slots Q (F0 m pc ls vs) := by
  obtain ⟨hx, hb, hml, hown, hts, hK, hnm, hbb, hRf, hRl, hk9⟩ := C
  obtain ⟨hlo, hst, hE, hG, hlc⟩ := F
  obtain ⟨en, hd⟩ := q_dec (n := 3) hk9 hi rfl
  subst en
  exact lv_sipush hx hb hd rfl (q_go hs kk ⟨hlo, ⟨_, _, rfl, ⟨_, rfl, q_numV _⟩, hst⟩, hE, hG, hlc⟩)
theorem q_ldc {ci : Nat} (C : q_Ctx p R s m args meth c dC dI dA r b base L Hb k) (hi : ins k pc = some (.ldc ci, nx, a1, a2, a3, z)) (hs : ((bif Nat.beq a1 0 then p_go nx lo (.inl (.inl z) :: st) E h else none) : Option pS) = some (.inl l0)) (F : q_Fr dC dI dA r b base Hb (mL k) (pc, lo, st, E, h) ls vs H locs) (kk : q_KK p l e R s m args below meth c cells slots Q dC dI dA r b base Hb k l0) : W p l e R s m args below meth c H locs cells slots Q (F0 m pc ls vs) := by
  obtain ⟨hx, hb, hml, hown, hts, hK, hnm, hbb, hRf, hRl, hk9⟩ := C
  obtain ⟨hlo, hst, hE, hG, hlc⟩ := F
  obtain ⟨en, hd⟩ := q_dec (n := 2) hk9 hi rfl
  have hc := (q_row hk9 hi).2.2.1
  subst en
  cases ha : Nat.beq a1 0 with
  | false => rw [ha] at hs; cases hs
  | true =>
    rw [ha] at hs
    simp only [c_I, ha, Bool.not_true, Bool.false_or] at hc
    exact lv_ldc hx hb hown (hts _ (wAt_mem hc)) hd (q_go hs kk ⟨hlo, ⟨_, _, rfl, ⟨_, rfl, rfl⟩, hst⟩, hE, hG, hlc⟩)
theorem q_ldcw {ci : Nat} (C : q_Ctx p R s m args meth c dC dI dA r b base L Hb k) (hi : ins k pc = some (.ldc_w ci, nx, a1, a2, a3, z)) (hs : ((bif Nat.beq a1 0 then p_go nx lo (.inl (.inl z) :: st) E h else none) : Option pS) = some (.inl l0)) (F : q_Fr dC dI dA r b base Hb (mL k) (pc, lo, st, E, h) ls vs H locs) (kk : q_KK p l e R s m args below meth c cells slots Q dC dI dA r b base Hb k l0) : W p l e R s m args below meth c H locs cells slots Q (F0 m pc ls vs) := by
  obtain ⟨hx, hb, hml, hown, hts, hK, hnm, hbb, hRf, hRl, hk9⟩ := C
  obtain ⟨hlo, hst, hE, hG, hlc⟩ := F
  obtain ⟨en, hd⟩ := q_dec (n := 3) hk9 hi rfl
  have hc := (q_row hk9 hi).2.2.1
  subst en
  cases ha : Nat.beq a1 0 with
  | false => rw [ha] at hs; cases hs
  | true =>
    rw [ha] at hs
    simp only [c_I, ha, Bool.not_true, Bool.false_or] at hc
    exact lv_ldcw hx hb hown (hts _ (wAt_mem hc)) hd (q_go hs kk ⟨hlo, ⟨_, _, rfl, ⟨_, rfl, rfl⟩, hst⟩, hE, hG, hlc⟩)
theorem q_iload_n {ci : Fin 4} (C : q_Ctx p R s m args meth c dC dI dA r b base L Hb k) (hi : ins k pc = some (.iload_n ci, nx, a1, a2, a3, z)) (hs : (p_gets lo ci.val 0 nx st E h : Option pS) = some (.inl l0)) (F : q_Fr dC dI dA r b base Hb (mL k) (pc, lo, st, E, h) ls vs H locs) (kk : q_KK p l e R s m args below meth c cells slots Q dC dI dA r b base Hb k l0) : W p l e R s m args below meth c H locs cells slots Q (F0 m pc ls vs) := by
  obtain ⟨hx, hb, hml, hown, hts, hK, hnm, hbb, hRf, hRl, hk9⟩ := C
  obtain ⟨hlo, hst, hE, hG, hlc⟩ := F
  obtain ⟨en, hd⟩ := q_dec (n := 1) hk9 hi rfl
  subst en
  unfold p_gets at hs
  split at hs
  · rename_i v hg
    simp only [Nat.beq, cond_true, cond_false] at hs
    obtain ⟨w, hw, y, rfl, hy⟩ := hlo.get hg
    exact lv_iload_n hx hb hd rfl hw (q_go hs kk ⟨hlo, ⟨_, _, rfl, ⟨y, rfl, hy⟩, hst⟩, hE, hG, hlc⟩)
  · rename_i o hg
    simp only [Nat.beq, cond_true, cond_false] at hs
    cases hs
  · cases hs
theorem q_iload {ci : Nat} (C : q_Ctx p R s m args meth c dC dI dA r b base L Hb k) (hi : ins k pc = some (.iload ci, nx, a1, a2, a3, z)) (hs : (p_gets lo ci 0 nx st E h : Option pS) = some (.inl l0)) (F : q_Fr dC dI dA r b base Hb (mL k) (pc, lo, st, E, h) ls vs H locs) (kk : q_KK p l e R s m args below meth c cells slots Q dC dI dA r b base Hb k l0) : W p l e R s m args below meth c H locs cells slots Q (F0 m pc ls vs) := by
  obtain ⟨hx, hb, hml, hown, hts, hK, hnm, hbb, hRf, hRl, hk9⟩ := C
  obtain ⟨hlo, hst, hE, hG, hlc⟩ := F
  obtain ⟨en, hd⟩ := q_dec (n := 2) hk9 hi rfl
  subst en
  unfold p_gets at hs
  split at hs
  · rename_i v hg
    simp only [Nat.beq, cond_true, cond_false] at hs
    obtain ⟨w, hw, y, rfl, hy⟩ := hlo.get hg
    exact lv_iload hx hb hd hw (q_go hs kk ⟨hlo, ⟨_, _, rfl, ⟨y, rfl, hy⟩, hst⟩, hE, hG, hlc⟩)
  · rename_i o hg
    simp only [Nat.beq, cond_true, cond_false] at hs
    cases hs
  · cases hs
theorem q_aload_n {ci : Fin 4} (C : q_Ctx p R s m args meth c dC dI dA r b base L Hb k) (hi : ins k pc = some (.aload_n ci, nx, a1, a2, a3, z)) (hs : (p_gets lo ci.val 1 nx st E h : Option pS) = some (.inl l0)) (F : q_Fr dC dI dA r b base Hb (mL k) (pc, lo, st, E, h) ls vs H locs) (kk : q_KK p l e R s m args below meth c cells slots Q dC dI dA r b base Hb k l0) : W p l e R s m args below meth c H locs cells slots Q (F0 m pc ls vs) := by
  obtain ⟨hx, hb, hml, hown, hts, hK, hnm, hbb, hRf, hRl, hk9⟩ := C
  obtain ⟨hlo, hst, hE, hG, hlc⟩ := F
  obtain ⟨en, hd⟩ := q_dec (n := 1) hk9 hi rfl
  subst en
  unfold p_gets at hs
  split at hs
  · rename_i v hg
    simp only [Nat.beq, cond_true, cond_false] at hs
    cases hs
  · rename_i o hg
    simp only [Nat.beq, cond_true, cond_false] at hs
    obtain ⟨w, hw, hy⟩ := hlo.get hg
    have hy2 : w = q_rf b base _ := hy
    subst hy2
    rcases o with _ | o
    · exact lv_aload_nN hx hb hd rfl hw (q_go hs kk ⟨hlo, ⟨_, _, rfl, rfl, hst⟩, hE, hG, hlc⟩)
    · cases o with
      | zero => exact lv_aload_n hx hb hd rfl hw (q_go hs kk ⟨hlo, ⟨_, _, rfl, rfl, hst⟩, hE, hG, hlc⟩)
      | succ o => exact lv_aload_n hx hb hd rfl hw (q_go hs kk ⟨hlo, ⟨_, _, rfl, rfl, hst⟩, hE, hG, hlc⟩)
  · cases hs
theorem q_aload {ci : Nat} (C : q_Ctx p R s m args meth c dC dI dA r b base L Hb k) (hi : ins k pc = some (.aload ci, nx, a1, a2, a3, z)) (hs : (p_gets lo ci 1 nx st E h : Option pS) = some (.inl l0)) (F : q_Fr dC dI dA r b base Hb (mL k) (pc, lo, st, E, h) ls vs H locs) (kk : q_KK p l e R s m args below meth c cells slots Q dC dI dA r b base Hb k l0) : W p l e R s m args below meth c H locs cells slots Q (F0 m pc ls vs) := by
  obtain ⟨hx, hb, hml, hown, hts, hK, hnm, hbb, hRf, hRl, hk9⟩ := C
  obtain ⟨hlo, hst, hE, hG, hlc⟩ := F
  obtain ⟨en, hd⟩ := q_dec (n := 2) hk9 hi rfl
  subst en
  unfold p_gets at hs
  split at hs
  · rename_i v hg
    simp only [Nat.beq, cond_true, cond_false] at hs
    cases hs
  · rename_i o hg
    simp only [Nat.beq, cond_true, cond_false] at hs
    obtain ⟨w, hw, hy⟩ := hlo.get hg
    have hy2 : w = q_rf b base _ := hy
    subst hy2
    rcases o with _ | o
    · exact lv_aloadN hx hb hd hw (q_go hs kk ⟨hlo, ⟨_, _, rfl, rfl, hst⟩, hE, hG, hlc⟩)
    · cases o with
      | zero => exact lv_aload hx hb hd hw (q_go hs kk ⟨hlo, ⟨_, _, rfl, rfl, hst⟩, hE, hG, hlc⟩)
      | succ o => exact lv_aload hx hb hd hw (q_go hs kk ⟨hlo, ⟨_, _, rfl, rfl, hst⟩, hE, hG, hlc⟩)
  · cases hs
theorem q_istore_n {ci : Fin 4} (C : q_Ctx p R s m args meth c dC dI dA r b base L Hb k) (hi : ins k pc = some (.istore_n ci, nx, a1, a2, a3, z)) (hs : (p_puts lo ci.val 0 nx (mL k) st E h : Option pS) = some (.inl l0)) (F : q_Fr dC dI dA r b base Hb (mL k) (pc, lo, st, E, h) ls vs H locs) (kk : q_KK p l e R s m args below meth c cells slots Q dC dI dA r b base Hb k l0) : W p l e R s m args below meth c H locs cells slots Q (F0 m pc ls vs) := by
  obtain ⟨hx, hb, hml, hown, hts, hK, hnm, hbb, hRf, hRl, hk9⟩ := C
  obtain ⟨hlo, hst, hE, hG, hlc⟩ := F
  obtain ⟨en, hd⟩ := q_dec (n := 1) hk9 hi rfl
  subst en
  unfold p_puts at hs
  split at hs
  · rename_i v rr
    simp only [Nat.beq, Bool.true_and, Bool.false_and, cond_false] at hs
    cases hn0 : Nat.blt ci.val (mL k) with
    | false => rw [hn0] at hs; cases hs
    | true =>
      have hn : ci.val < mL k := q_blt hn0
      rw [hn0] at hs
      obtain ⟨w, vs', rfl, ⟨y, rfl, hy⟩, hst'⟩ := hst
      exact lv_istore_n hx hb hd rfl hlo.has hn rfl (fun ls' h' => q_go hs kk ⟨hlo.put ⟨y, rfl, hy⟩ h', hst', hE, hG, hlc⟩)
  · rename_i o rr
    simp only [Nat.beq, Bool.true_and, Bool.false_and, cond_false] at hs
    cases hs
  · cases hs
theorem q_istore {ci : Nat} (C : q_Ctx p R s m args meth c dC dI dA r b base L Hb k) (hi : ins k pc = some (.istore ci, nx, a1, a2, a3, z)) (hs : (p_puts lo ci 0 nx (mL k) st E h : Option pS) = some (.inl l0)) (F : q_Fr dC dI dA r b base Hb (mL k) (pc, lo, st, E, h) ls vs H locs) (kk : q_KK p l e R s m args below meth c cells slots Q dC dI dA r b base Hb k l0) : W p l e R s m args below meth c H locs cells slots Q (F0 m pc ls vs) := by
  obtain ⟨hx, hb, hml, hown, hts, hK, hnm, hbb, hRf, hRl, hk9⟩ := C
  obtain ⟨hlo, hst, hE, hG, hlc⟩ := F
  obtain ⟨en, hd⟩ := q_dec (n := 2) hk9 hi rfl
  subst en
  unfold p_puts at hs
  split at hs
  · rename_i v rr
    simp only [Nat.beq, Bool.true_and, Bool.false_and, cond_false] at hs
    cases hn0 : Nat.blt ci (mL k) with
    | false => rw [hn0] at hs; cases hs
    | true =>
      have hn : ci < mL k := q_blt hn0
      rw [hn0] at hs
      obtain ⟨w, vs', rfl, ⟨y, rfl, hy⟩, hst'⟩ := hst
      exact lv_istore hx hb hd hlo.has hn rfl (fun ls' h' => q_go hs kk ⟨hlo.put ⟨y, rfl, hy⟩ h', hst', hE, hG, hlc⟩)
  · rename_i o rr
    simp only [Nat.beq, Bool.true_and, Bool.false_and, cond_false] at hs
    cases hs
  · cases hs
theorem q_astore_n {ci : Fin 4} (C : q_Ctx p R s m args meth c dC dI dA r b base L Hb k) (hi : ins k pc = some (.astore_n ci, nx, a1, a2, a3, z)) (hs : (p_puts lo ci.val 1 nx (mL k) st E h : Option pS) = some (.inl l0)) (F : q_Fr dC dI dA r b base Hb (mL k) (pc, lo, st, E, h) ls vs H locs) (kk : q_KK p l e R s m args below meth c cells slots Q dC dI dA r b base Hb k l0) : W p l e R s m args below meth c H locs cells slots Q (F0 m pc ls vs) := by
  obtain ⟨hx, hb, hml, hown, hts, hK, hnm, hbb, hRf, hRl, hk9⟩ := C
  obtain ⟨hlo, hst, hE, hG, hlc⟩ := F
  obtain ⟨en, hd⟩ := q_dec (n := 1) hk9 hi rfl
  subst en
  unfold p_puts at hs
  split at hs
  · rename_i v rr
    simp only [Nat.beq, Bool.true_and, Bool.false_and, cond_false] at hs
    cases hs
  · rename_i o rr
    simp only [Nat.beq, Bool.true_and, Bool.false_and, cond_false] at hs
    cases hn0 : Nat.blt ci.val (mL k) with
    | false => rw [hn0] at hs; cases hs
    | true =>
      have hn : ci.val < mL k := q_blt hn0
      rw [hn0] at hs
      obtain ⟨w, vs', rfl, hy, hst'⟩ := hst
      have hy2 : w = q_rf b base _ := hy
      subst hy2
      rcases o with _ | o
      · exact lv_astore_nN hx hb hd rfl hlo.has hn rfl (fun ls' h' => q_go hs kk ⟨hlo.put (a := .inr (.inl none)) rfl h', hst', hE, hG, hlc⟩)
      · cases o with
        | zero => exact lv_astore_n hx hb hd rfl hlo.has hn rfl (fun ls' h' => q_go hs kk ⟨hlo.put (a := .inr (.inl (some 0))) rfl h', hst', hE, hG, hlc⟩)
        | succ o => exact lv_astore_n hx hb hd rfl hlo.has hn rfl (fun ls' h' => q_go hs kk ⟨hlo.put (a := .inr (.inl (some (o + 1)))) rfl h', hst', hE, hG, hlc⟩)
  · cases hs
theorem q_astore {ci : Nat} (C : q_Ctx p R s m args meth c dC dI dA r b base L Hb k) (hi : ins k pc = some (.astore ci, nx, a1, a2, a3, z)) (hs : (p_puts lo ci 1 nx (mL k) st E h : Option pS) = some (.inl l0)) (F : q_Fr dC dI dA r b base Hb (mL k) (pc, lo, st, E, h) ls vs H locs) (kk : q_KK p l e R s m args below meth c cells slots Q dC dI dA r b base Hb k l0) : W p l e R s m args below meth c H locs cells slots Q (F0 m pc ls vs) := by
  obtain ⟨hx, hb, hml, hown, hts, hK, hnm, hbb, hRf, hRl, hk9⟩ := C
  obtain ⟨hlo, hst, hE, hG, hlc⟩ := F
  obtain ⟨en, hd⟩ := q_dec (n := 2) hk9 hi rfl
  subst en
  unfold p_puts at hs
  split at hs
  · rename_i v rr
    simp only [Nat.beq, Bool.true_and, Bool.false_and, cond_false] at hs
    cases hs
  · rename_i o rr
    simp only [Nat.beq, Bool.true_and, Bool.false_and, cond_false] at hs
    cases hn0 : Nat.blt ci (mL k) with
    | false => rw [hn0] at hs; cases hs
    | true =>
      have hn : ci < mL k := q_blt hn0
      rw [hn0] at hs
      obtain ⟨w, vs', rfl, hy, hst'⟩ := hst
      have hy2 : w = q_rf b base _ := hy
      subst hy2
      rcases o with _ | o
      · exact lv_astoreN hx hb hd hlo.has hn rfl (fun ls' h' => q_go hs kk ⟨hlo.put (a := .inr (.inl none)) rfl h', hst', hE, hG, hlc⟩)
      · cases o with
        | zero => exact lv_astore hx hb hd hlo.has hn rfl (fun ls' h' => q_go hs kk ⟨hlo.put (a := .inr (.inl (some 0))) rfl h', hst', hE, hG, hlc⟩)
        | succ o => exact lv_astore hx hb hd hlo.has hn rfl (fun ls' h' => q_go hs kk ⟨hlo.put (a := .inr (.inl (some (o + 1)))) rfl h', hst', hE, hG, hlc⟩)
  · cases hs
theorem q_iinc {ci : Nat} {cz : Int} (C : q_Ctx p R s m args meth c dC dI dA r b base L Hb k) (hi : ins k pc = some (.iinc ci cz, nx, a1, a2, a3, z)) (hs : ((match p_lget lo ci with
      | some (.inl v) => bif Nat.blt ci (mL k) && Nat.beq nx (pc + 3) then p_go nx (p_lset lo ci (.inl (p_bin (fun x y => x + y) E v (.inl cz)))) st E h else none
      | _ => none) : Option pS) = some (.inl l0)) (F : q_Fr dC dI dA r b base Hb (mL k) (pc, lo, st, E, h) ls vs H locs) (kk : q_KK p l e R s m args below meth c cells slots Q dC dI dA r b base Hb k l0) : W p l e R s m args below meth c H locs cells slots Q (F0 m pc ls vs) := by
  obtain ⟨hx, hb, hml, hown, hts, hK, hnm, hbb, hRf, hRl, hk9⟩ := C
  obtain ⟨hlo, hst, hE, hG, hlc⟩ := F
  obtain ⟨en, hd⟩ := q_dec (n := 3) hk9 hi rfl
  subst en
  split at hs
  · rename_i v hg
    cases hn0 : Nat.blt ci (mL k) with
    | false => rw [hn0] at hs; cases hs
    | true =>
      have hn : ci < mL k := q_blt hn0
      rw [hn0, Nat.beq_refl] at hs
      obtain ⟨w, hw, y, rfl, hy⟩ := hlo.get hg
      obtain ⟨j, hj⟩ := List.getElem?_of_mem (show (ci, Value.int y) ∈ q_lv ls lo from List.mem_map.mpr ⟨(ci, .inl v), q_lget hg, by simp [q_rv, hw]⟩)
      exact lv_iinc hx hb hd hlo.has hj rfl hn rfl (fun ls' h' => q_go hs kk ⟨hlo.put ⟨_, rfl, q_bin (f := fun x y => x + y) hE hy rfl⟩ h', hst, hE, hG, hlc⟩)
  · cases hs
theorem q_iadd  (C : q_Ctx p R s m args meth c dC dI dA r b base L Hb k) (hi : ins k pc = some (.iadd, nx, a1, a2, a3, z)) (hs : (p_op2 (p_bin (fun x y => x + y) E) nx lo st E h : Option pS) = some (.inl l0)) (F : q_Fr dC dI dA r b base Hb (mL k) (pc, lo, st, E, h) ls vs H locs) (kk : q_KK p l e R s m args below meth c cells slots Q dC dI dA r b base Hb k l0) : W p l e R s m args below meth c H locs cells slots Q (F0 m pc ls vs) := by
  obtain ⟨hx, hb, hml, hown, hts, hK, hnm, hbb, hRf, hRl, hk9⟩ := C
  obtain ⟨hlo, hst, hE, hG, hlc⟩ := F
  obtain ⟨en, hd⟩ := q_dec (n := 1) hk9 hi rfl
  subst en
  unfold p_op2 at hs
  split at hs
  · obtain ⟨w, vs', rfl, ⟨y, rfl, hy⟩, w2, vs2, rfl, ⟨x, rfl, hxx⟩, hst'⟩ := hst
    exact lv_iadd hx hb hd (q_go hs kk ⟨hlo, ⟨_, _, rfl, ⟨_, rfl, q_bin (f := fun x y => x + y) hE hxx hy⟩, hst'⟩, hE, hG, hlc⟩)
  · cases hs
theorem q_isub  (C : q_Ctx p R s m args meth c dC dI dA r b base L Hb k) (hi : ins k pc = some (.isub, nx, a1, a2, a3, z)) (hs : (p_op2 (p_bin (fun x y => x - y) E) nx lo st E h : Option pS) = some (.inl l0)) (F : q_Fr dC dI dA r b base Hb (mL k) (pc, lo, st, E, h) ls vs H locs) (kk : q_KK p l e R s m args below meth c cells slots Q dC dI dA r b base Hb k l0) : W p l e R s m args below meth c H locs cells slots Q (F0 m pc ls vs) := by
  obtain ⟨hx, hb, hml, hown, hts, hK, hnm, hbb, hRf, hRl, hk9⟩ := C
  obtain ⟨hlo, hst, hE, hG, hlc⟩ := F
  obtain ⟨en, hd⟩ := q_dec (n := 1) hk9 hi rfl
  subst en
  unfold p_op2 at hs
  split at hs
  · obtain ⟨w, vs', rfl, ⟨y, rfl, hy⟩, w2, vs2, rfl, ⟨x, rfl, hxx⟩, hst'⟩ := hst
    exact lv_isub hx hb hd (q_go hs kk ⟨hlo, ⟨_, _, rfl, ⟨_, rfl, q_bin (f := fun x y => x - y) hE hxx hy⟩, hst'⟩, hE, hG, hlc⟩)
  · cases hs
theorem q_imul  (C : q_Ctx p R s m args meth c dC dI dA r b base L Hb k) (hi : ins k pc = some (.imul, nx, a1, a2, a3, z)) (hs : (p_op2 (p_bin (fun x y => x * y) E) nx lo st E h : Option pS) = some (.inl l0)) (F : q_Fr dC dI dA r b base Hb (mL k) (pc, lo, st, E, h) ls vs H locs) (kk : q_KK p l e R s m args below meth c cells slots Q dC dI dA r b base Hb k l0) : W p l e R s m args below meth c H locs cells slots Q (F0 m pc ls vs) := by
  obtain ⟨hx, hb, hml, hown, hts, hK, hnm, hbb, hRf, hRl, hk9⟩ := C
  obtain ⟨hlo, hst, hE, hG, hlc⟩ := F
  obtain ⟨en, hd⟩ := q_dec (n := 1) hk9 hi rfl
  subst en
  unfold p_op2 at hs
  split at hs
  · obtain ⟨w, vs', rfl, ⟨y, rfl, hy⟩, w2, vs2, rfl, ⟨x, rfl, hxx⟩, hst'⟩ := hst
    exact lv_imul hx hb hd (q_go hs kk ⟨hlo, ⟨_, _, rfl, ⟨_, rfl, q_bin (f := fun x y => x * y) hE hxx hy⟩, hst'⟩, hE, hG, hlc⟩)
  · cases hs
theorem q_iand  (C : q_Ctx p R s m args meth c dC dI dA r b base L Hb k) (hi : ins k pc = some (.iand, nx, a1, a2, a3, z)) (hs : (p_op2 (p_bin (fun x y => x &&& y) E) nx lo st E h : Option pS) = some (.inl l0)) (F : q_Fr dC dI dA r b base Hb (mL k) (pc, lo, st, E, h) ls vs H locs) (kk : q_KK p l e R s m args below meth c cells slots Q dC dI dA r b base Hb k l0) : W p l e R s m args below meth c H locs cells slots Q (F0 m pc ls vs) := by
  obtain ⟨hx, hb, hml, hown, hts, hK, hnm, hbb, hRf, hRl, hk9⟩ := C
  obtain ⟨hlo, hst, hE, hG, hlc⟩ := F
  obtain ⟨en, hd⟩ := q_dec (n := 1) hk9 hi rfl
  subst en
  unfold p_op2 at hs
  split at hs
  · obtain ⟨w, vs', rfl, ⟨y, rfl, hy⟩, w2, vs2, rfl, ⟨x, rfl, hxx⟩, hst'⟩ := hst
    exact lv_iand hx hb hd (q_go hs kk ⟨hlo, ⟨_, _, rfl, ⟨_, rfl, q_bin (f := fun x y => x &&& y) hE hxx hy⟩, hst'⟩, hE, hG, hlc⟩)
  · cases hs
theorem q_ior  (C : q_Ctx p R s m args meth c dC dI dA r b base L Hb k) (hi : ins k pc = some (.ior, nx, a1, a2, a3, z)) (hs : (p_op2 (p_bin (fun x y => x ||| y) E) nx lo st E h : Option pS) = some (.inl l0)) (F : q_Fr dC dI dA r b base Hb (mL k) (pc, lo, st, E, h) ls vs H locs) (kk : q_KK p l e R s m args below meth c cells slots Q dC dI dA r b base Hb k l0) : W p l e R s m args below meth c H locs cells slots Q (F0 m pc ls vs) := by
  obtain ⟨hx, hb, hml, hown, hts, hK, hnm, hbb, hRf, hRl, hk9⟩ := C
  obtain ⟨hlo, hst, hE, hG, hlc⟩ := F
  obtain ⟨en, hd⟩ := q_dec (n := 1) hk9 hi rfl
  subst en
  unfold p_op2 at hs
  split at hs
  · obtain ⟨w, vs', rfl, ⟨y, rfl, hy⟩, w2, vs2, rfl, ⟨x, rfl, hxx⟩, hst'⟩ := hst
    exact lv_ior hx hb hd (q_go hs kk ⟨hlo, ⟨_, _, rfl, ⟨_, rfl, q_bin (f := fun x y => x ||| y) hE hxx hy⟩, hst'⟩, hE, hG, hlc⟩)
  · cases hs
theorem q_ixor  (C : q_Ctx p R s m args meth c dC dI dA r b base L Hb k) (hi : ins k pc = some (.ixor, nx, a1, a2, a3, z)) (hs : (p_op2 (p_bin (fun x y => x ^^^ y) E) nx lo st E h : Option pS) = some (.inl l0)) (F : q_Fr dC dI dA r b base Hb (mL k) (pc, lo, st, E, h) ls vs H locs) (kk : q_KK p l e R s m args below meth c cells slots Q dC dI dA r b base Hb k l0) : W p l e R s m args below meth c H locs cells slots Q (F0 m pc ls vs) := by
  obtain ⟨hx, hb, hml, hown, hts, hK, hnm, hbb, hRf, hRl, hk9⟩ := C
  obtain ⟨hlo, hst, hE, hG, hlc⟩ := F
  obtain ⟨en, hd⟩ := q_dec (n := 1) hk9 hi rfl
  subst en
  unfold p_op2 at hs
  split at hs
  · obtain ⟨w, vs', rfl, ⟨y, rfl, hy⟩, w2, vs2, rfl, ⟨x, rfl, hxx⟩, hst'⟩ := hst
    exact lv_ixor hx hb hd (q_go hs kk ⟨hlo, ⟨_, _, rfl, ⟨_, rfl, q_bin (f := fun x y => x ^^^ y) hE hxx hy⟩, hst'⟩, hE, hG, hlc⟩)
  · cases hs
theorem q_ishl  (C : q_Ctx p R s m args meth c dC dI dA r b base L Hb k) (hi : ins k pc = some (.ishl, nx, a1, a2, a3, z)) (hs : (p_op2 (p_bin (fun x y => x <<< (y &&& 31)) E) nx lo st E h : Option pS) = some (.inl l0)) (F : q_Fr dC dI dA r b base Hb (mL k) (pc, lo, st, E, h) ls vs H locs) (kk : q_KK p l e R s m args below meth c cells slots Q dC dI dA r b base Hb k l0) : W p l e R s m args below meth c H locs cells slots Q (F0 m pc ls vs) := by
  obtain ⟨hx, hb, hml, hown, hts, hK, hnm, hbb, hRf, hRl, hk9⟩ := C
  obtain ⟨hlo, hst, hE, hG, hlc⟩ := F
  obtain ⟨en, hd⟩ := q_dec (n := 1) hk9 hi rfl
  subst en
  unfold p_op2 at hs
  split at hs
  · obtain ⟨w, vs', rfl, ⟨y, rfl, hy⟩, w2, vs2, rfl, ⟨x, rfl, hxx⟩, hst'⟩ := hst
    exact lv_ishl hx hb hd (q_go hs kk ⟨hlo, ⟨_, _, rfl, ⟨_, rfl, q_bin (f := fun x y => x <<< (y &&& 31)) hE hxx hy⟩, hst'⟩, hE, hG, hlc⟩)
  · cases hs
theorem q_ishr  (C : q_Ctx p R s m args meth c dC dI dA r b base L Hb k) (hi : ins k pc = some (.ishr, nx, a1, a2, a3, z)) (hs : (p_op2 (p_shr E) nx lo st E h : Option pS) = some (.inl l0)) (F : q_Fr dC dI dA r b base Hb (mL k) (pc, lo, st, E, h) ls vs H locs) (kk : q_KK p l e R s m args below meth c cells slots Q dC dI dA r b base Hb k l0) : W p l e R s m args below meth c H locs cells slots Q (F0 m pc ls vs) := by
  obtain ⟨hx, hb, hml, hown, hts, hK, hnm, hbb, hRf, hRl, hk9⟩ := C
  obtain ⟨hlo, hst, hE, hG, hlc⟩ := F
  obtain ⟨en, hd⟩ := q_dec (n := 1) hk9 hi rfl
  subst en
  unfold p_op2 at hs
  split at hs
  · obtain ⟨w, vs', rfl, ⟨y, rfl, hy⟩, w2, vs2, rfl, ⟨x, rfl, hxx⟩, hst'⟩ := hst
    exact lv_ishr hx hb hd (q_go hs kk ⟨hlo, ⟨_, _, rfl, ⟨_, rfl, q_shr hE hxx hy⟩, hst'⟩, hE, hG, hlc⟩)
  · cases hs
theorem q_iushr  (C : q_Ctx p R s m args meth c dC dI dA r b base L Hb k) (hi : ins k pc = some (.iushr, nx, a1, a2, a3, z)) (hs : (p_op2 (p_bin (fun x y => (x.toUInt32 >>> (y.toUInt32 &&& Int32.toUInt32 31)).toInt32) E) nx lo st E h : Option pS) = some (.inl l0)) (F : q_Fr dC dI dA r b base Hb (mL k) (pc, lo, st, E, h) ls vs H locs) (kk : q_KK p l e R s m args below meth c cells slots Q dC dI dA r b base Hb k l0) : W p l e R s m args below meth c H locs cells slots Q (F0 m pc ls vs) := by
  obtain ⟨hx, hb, hml, hown, hts, hK, hnm, hbb, hRf, hRl, hk9⟩ := C
  obtain ⟨hlo, hst, hE, hG, hlc⟩ := F
  obtain ⟨en, hd⟩ := q_dec (n := 1) hk9 hi rfl
  subst en
  unfold p_op2 at hs
  split at hs
  · obtain ⟨w, vs', rfl, ⟨y, rfl, hy⟩, w2, vs2, rfl, ⟨x, rfl, hxx⟩, hst'⟩ := hst
    exact lv_iushr hx hb hd rfl (q_go hs kk ⟨hlo, ⟨_, _, rfl, ⟨_, rfl, q_bin (f := fun x y => (x.toUInt32 >>> (y.toUInt32 &&& Int32.toUInt32 31)).toInt32) hE hxx hy⟩, hst'⟩, hE, hG, hlc⟩)
  · cases hs
theorem q_idiv  (C : q_Ctx p R s m args meth c dC dI dA r b base L Hb k) (hi : ins k pc = some (.idiv, nx, a1, a2, a3, z)) (hs : (p_dv (fun x y => x / y) nx lo st E h : Option pS) = some (.inl l0)) (F : q_Fr dC dI dA r b base Hb (mL k) (pc, lo, st, E, h) ls vs H locs) (kk : q_KK p l e R s m args below meth c cells slots Q dC dI dA r b base Hb k l0) : W p l e R s m args below meth c H locs cells slots Q (F0 m pc ls vs) := by
  obtain ⟨hx, hb, hml, hown, hts, hK, hnm, hbb, hRf, hRl, hk9⟩ := C
  obtain ⟨hlo, hst, hE, hG, hlc⟩ := F
  obtain ⟨en, hd⟩ := q_dec (n := 1) hk9 hi rfl
  subst en
  unfold p_dv at hs
  split at hs
  · obtain ⟨w, vs', rfl, ⟨y, rfl, hy⟩, w2, vs2, rfl, ⟨x, rfl, hxx⟩, hst'⟩ := hst
    split at hs
    · rename_i zz hz
      cases h0 : decide (Int32.ofInt zz = 0) with
      | true => rw [h0] at hs; cases hs
      | false =>
        rw [h0] at hs
        have hne : ¬ y = 0 := by
          rw [(q_lit hE hy hz).2]
          exact of_decide_eq_false h0
        exact lv_idiv hx hb hd hne (q_go hs kk ⟨hlo, ⟨_, _, rfl, ⟨_, rfl, q_bin (f := fun x y => x / y) hE hxx hy⟩, hst'⟩, hE, hG, hlc⟩)
    · cases hs
  · cases hs
theorem q_irem  (C : q_Ctx p R s m args meth c dC dI dA r b base L Hb k) (hi : ins k pc = some (.irem, nx, a1, a2, a3, z)) (hs : (p_dv (fun x y => x - x / y * y) nx lo st E h : Option pS) = some (.inl l0)) (F : q_Fr dC dI dA r b base Hb (mL k) (pc, lo, st, E, h) ls vs H locs) (kk : q_KK p l e R s m args below meth c cells slots Q dC dI dA r b base Hb k l0) : W p l e R s m args below meth c H locs cells slots Q (F0 m pc ls vs) := by
  obtain ⟨hx, hb, hml, hown, hts, hK, hnm, hbb, hRf, hRl, hk9⟩ := C
  obtain ⟨hlo, hst, hE, hG, hlc⟩ := F
  obtain ⟨en, hd⟩ := q_dec (n := 1) hk9 hi rfl
  subst en
  unfold p_dv at hs
  split at hs
  · obtain ⟨w, vs', rfl, ⟨y, rfl, hy⟩, w2, vs2, rfl, ⟨x, rfl, hxx⟩, hst'⟩ := hst
    split at hs
    · rename_i zz hz
      cases h0 : decide (Int32.ofInt zz = 0) with
      | true => rw [h0] at hs; cases hs
      | false =>
        rw [h0] at hs
        have hne : ¬ y = 0 := by
          rw [(q_lit hE hy hz).2]
          exact of_decide_eq_false h0
        exact lv_irem hx hb hd hne (q_go hs kk ⟨hlo, ⟨_, _, rfl, ⟨_, rfl, q_bin (f := fun x y => x - x / y * y) hE hxx hy⟩, hst'⟩, hE, hG, hlc⟩)
    · cases hs
  · cases hs
theorem q_ineg  (C : q_Ctx p R s m args meth c dC dI dA r b base L Hb k) (hi : ins k pc = some (.ineg, nx, a1, a2, a3, z)) (hs : (p_op1 (p_un (fun x => -x) E) nx lo st E h : Option pS) = some (.inl l0)) (F : q_Fr dC dI dA r b base Hb (mL k) (pc, lo, st, E, h) ls vs H locs) (kk : q_KK p l e R s m args below meth c cells slots Q dC dI dA r b base Hb k l0) : W p l e R s m args below meth c H locs cells slots Q (F0 m pc ls vs) := by
  obtain ⟨hx, hb, hml, hown, hts, hK, hnm, hbb, hRf, hRl, hk9⟩ := C
  obtain ⟨hlo, hst, hE, hG, hlc⟩ := F
  obtain ⟨en, hd⟩ := q_dec (n := 1) hk9 hi rfl
  subst en
  unfold p_op1 at hs
  split at hs
  · obtain ⟨w, vs', rfl, ⟨x, rfl, hxx⟩, hst'⟩ := hst
    exact lv_ineg hx hb hd (q_go hs kk ⟨hlo, ⟨_, _, rfl, ⟨_, rfl, q_un (f := fun x => -x) hE hxx⟩, hst'⟩, hE, hG, hlc⟩)
  · cases hs
theorem q_i2b  (C : q_Ctx p R s m args meth c dC dI dA r b base L Hb k) (hi : ins k pc = some (.i2b, nx, a1, a2, a3, z)) (hs : (p_op1 (p_un (fun x => x.toInt8.toInt32) E) nx lo st E h : Option pS) = some (.inl l0)) (F : q_Fr dC dI dA r b base Hb (mL k) (pc, lo, st, E, h) ls vs H locs) (kk : q_KK p l e R s m args below meth c cells slots Q dC dI dA r b base Hb k l0) : W p l e R s m args below meth c H locs cells slots Q (F0 m pc ls vs) := by
  obtain ⟨hx, hb, hml, hown, hts, hK, hnm, hbb, hRf, hRl, hk9⟩ := C
  obtain ⟨hlo, hst, hE, hG, hlc⟩ := F
  obtain ⟨en, hd⟩ := q_dec (n := 1) hk9 hi rfl
  subst en
  unfold p_op1 at hs
  split at hs
  · obtain ⟨w, vs', rfl, ⟨x, rfl, hxx⟩, hst'⟩ := hst
    exact lv_i2b hx hb hd rfl (q_go hs kk ⟨hlo, ⟨_, _, rfl, ⟨_, rfl, q_un (f := fun x => x.toInt8.toInt32) hE hxx⟩, hst'⟩, hE, hG, hlc⟩)
  · cases hs
theorem q_i2s  (C : q_Ctx p R s m args meth c dC dI dA r b base L Hb k) (hi : ins k pc = some (.i2s, nx, a1, a2, a3, z)) (hs : (p_op1 (p_un (fun x => x.toInt16.toInt32) E) nx lo st E h : Option pS) = some (.inl l0)) (F : q_Fr dC dI dA r b base Hb (mL k) (pc, lo, st, E, h) ls vs H locs) (kk : q_KK p l e R s m args below meth c cells slots Q dC dI dA r b base Hb k l0) : W p l e R s m args below meth c H locs cells slots Q (F0 m pc ls vs) := by
  obtain ⟨hx, hb, hml, hown, hts, hK, hnm, hbb, hRf, hRl, hk9⟩ := C
  obtain ⟨hlo, hst, hE, hG, hlc⟩ := F
  obtain ⟨en, hd⟩ := q_dec (n := 1) hk9 hi rfl
  subst en
  unfold p_op1 at hs
  split at hs
  · obtain ⟨w, vs', rfl, ⟨x, rfl, hxx⟩, hst'⟩ := hst
    exact lv_i2s hx hb hd rfl (q_go hs kk ⟨hlo, ⟨_, _, rfl, ⟨_, rfl, q_un (f := fun x => x.toInt16.toInt32) hE hxx⟩, hst'⟩, hE, hG, hlc⟩)
  · cases hs
theorem q_i2c  (C : q_Ctx p R s m args meth c dC dI dA r b base L Hb k) (hi : ins k pc = some (.i2c, nx, a1, a2, a3, z)) (hs : (p_op1 (p_un (fun x => (x.toUInt32 % 65536).toInt32) E) nx lo st E h : Option pS) = some (.inl l0)) (F : q_Fr dC dI dA r b base Hb (mL k) (pc, lo, st, E, h) ls vs H locs) (kk : q_KK p l e R s m args below meth c cells slots Q dC dI dA r b base Hb k l0) : W p l e R s m args below meth c H locs cells slots Q (F0 m pc ls vs) := by
  obtain ⟨hx, hb, hml, hown, hts, hK, hnm, hbb, hRf, hRl, hk9⟩ := C
  obtain ⟨hlo, hst, hE, hG, hlc⟩ := F
  obtain ⟨en, hd⟩ := q_dec (n := 1) hk9 hi rfl
  subst en
  unfold p_op1 at hs
  split at hs
  · obtain ⟨w, vs', rfl, ⟨x, rfl, hxx⟩, hst'⟩ := hst
    exact lv_i2c hx hb hd rfl (q_go hs kk ⟨hlo, ⟨_, _, rfl, ⟨_, rfl, q_un (f := fun x => (x.toUInt32 % 65536).toInt32) hE hxx⟩, hst'⟩, hE, hG, hlc⟩)
  · cases hs
theorem q_br {P : Prop} {t : Nat} {lq : List (Bool × pE)} {rs : List pA} {vr : List Value} (hs : p_br t nx lo rs h lq = some (.inl l0)) (hq : ∃ q ∈ lq, (q.1 = true ↔ P) ∧ q_E r q.2 ∧ q.2.1 = E.1) (hlo : q_Lo r b base lo ls (mL k)) (hst : q_L r b base rs vr) (hG : q_G dC dI dA r b base Hb E h H) (hlc : ∀ q ∈ locs, base ≤ q.base) (kk : q_KK p l e R s m args below meth c cells slots Q dC dI dA r b base Hb k l0) :
    (P → W p l e R s m args below meth c H locs cells slots Q (F0 m t ls vr)) ∧ (¬ P → W p l e R s m args below meth c H locs cells slots Q (F0 m nx ls vr)) := by
  cases hs
  obtain ⟨q, h1, h2, h3, h4⟩ := hq
  have K := kk _ (List.mem_map.mpr ⟨q, h1, rfl⟩) ls vr H locs ⟨hlo, hst, h3, hG.env h4, hlc⟩
  obtain ⟨q1, q2⟩ := q
  cases q1 with
  | true => exact ⟨fun _ => K, fun hp => absurd (h2.mp rfl) hp⟩
  | false => exact ⟨fun hp => absurd (h2.mpr hp) (by simp), fun _ => K⟩
theorem q_holdeq {x y : Int32} (q : x = y) : q_holds .eq x y := q
theorem q_nholdeq {x y : Int32} (q : ¬ (x = y)) : ¬ q_holds .eq x y := q
theorem q_holdne {x y : Int32} (q : ¬ x = y) : q_holds .ne x y := q
theorem q_nholdne {x y : Int32} (q : x = y) : ¬ q_holds .ne x y := fun z => z q
theorem q_holdlt {x y : Int32} (q : x < y) : q_holds .lt x y := q
theorem q_nholdlt {x y : Int32} (q : ¬ (x < y)) : ¬ q_holds .lt x y := q
theorem q_holdge {x y : Int32} (q : y ≤ x) : q_holds .ge x y := Int32.not_lt.mpr q
theorem q_nholdge {x y : Int32} (q : ¬ (y ≤ x)) : ¬ q_holds .ge x y := fun z => q (Int32.not_lt.mp z)
theorem q_holdgt {x y : Int32} (q : y < x) : q_holds .gt x y := q
theorem q_nholdgt {x y : Int32} (q : ¬ (y < x)) : ¬ q_holds .gt x y := q
theorem q_holdle {x y : Int32} (q : x ≤ y) : q_holds .le x y := Int32.not_lt.mpr q
theorem q_nholdle {x y : Int32} (q : ¬ (x ≤ y)) : ¬ q_holds .le x y := fun z => q (Int32.not_lt.mp z)
theorem q_ifc {cc : ClassFile.Cond} {cz : Int} (C : q_Ctx p R s m args meth c dC dI dA r b base L Hb k) (hi : ins k pc = some (.ifCond cc cz, nx, a1, a2, a3, z)) (hs : ((match st with
      | .inl x :: rs => p_br a1 nx lo rs h (p_cmp cc E x (.inl 0))
      | _ => none) : Option pS) = some (.inl l0)) (F : q_Fr dC dI dA r b base Hb (mL k) (pc, lo, st, E, h) ls vs H locs) (kk : q_KK p l e R s m args below meth c cells slots Q dC dI dA r b base Hb k l0) : W p l e R s m args below meth c H locs cells slots Q (F0 m pc ls vs) := by
  obtain ⟨hx, hb, hml, hown, hts, hK, hnm, hbb, hRf, hRl, hk9⟩ := C
  obtain ⟨hlo, hst, hE, hG, hlc⟩ := F
  obtain ⟨en, hd⟩ := q_dec (n := 3) hk9 hi rfl
  have hc := (q_row hk9 hi).2.2.1
  simp only [c_I, Bool.and_eq_true, decide_eq_true_eq] at hc
  have ht := hc.1
  subst en
  split at hs
  · obtain ⟨w, vs', rfl, ⟨x, rfl, hxx⟩, hst'⟩ := hst
    have B := q_br (H := H) (locs := locs) (ls := ls) hs (q_cmp (d := .inl 0) (y := 0) hE hxx rfl) hlo hst' hG hlc kk
    cases cc with
    | eq => exact lv_if_eq hx hb hd ht (fun q => B.1 (q_holdeq q)) (fun q => B.2 (q_nholdeq q))
    | ne => exact lv_if_ne hx hb hd ht (fun q => B.1 (q_holdne q)) (fun q => B.2 (q_nholdne q))
    | lt => exact lv_if_lt hx hb hd ht (fun q => B.1 (q_holdlt q)) (fun q => B.2 (q_nholdlt q))
    | ge => exact lv_if_ge hx hb hd ht (fun q => B.1 (q_holdge q)) (fun q => B.2 (q_nholdge q))
    | gt => exact lv_if_gt hx hb hd ht (fun q => B.1 (q_holdgt q)) (fun q => B.2 (q_nholdgt q))
    | le => exact lv_if_le hx hb hd ht (fun q => B.1 (q_holdle q)) (fun q => B.2 (q_nholdle q))
  · cases hs
theorem q_icmp {cc : ClassFile.Cond} {cz : Int} (C : q_Ctx p R s m args meth c dC dI dA r b base L Hb k) (hi : ins k pc = some (.if_icmp cc cz, nx, a1, a2, a3, z)) (hs : ((match st with
      | .inl y :: .inl x :: rs => p_br a1 nx lo rs h (p_cmp cc E x y)
      | _ => none) : Option pS) = some (.inl l0)) (F : q_Fr dC dI dA r b base Hb (mL k) (pc, lo, st, E, h) ls vs H locs) (kk : q_KK p l e R s m args below meth c cells slots Q dC dI dA r b base Hb k l0) : W p l e R s m args below meth c H locs cells slots Q (F0 m pc ls vs) := by
  obtain ⟨hx, hb, hml, hown, hts, hK, hnm, hbb, hRf, hRl, hk9⟩ := C
  obtain ⟨hlo, hst, hE, hG, hlc⟩ := F
  obtain ⟨en, hd⟩ := q_dec (n := 3) hk9 hi rfl
  have hc := (q_row hk9 hi).2.2.1
  simp only [c_I, Bool.and_eq_true, decide_eq_true_eq] at hc
  have ht := hc.1
  subst en
  split at hs
  · obtain ⟨w, vs', rfl, ⟨y, rfl, hy⟩, w2, vs2, rfl, ⟨x, rfl, hxx⟩, hst'⟩ := hst
    have B := q_br (H := H) (locs := locs) (ls := ls) hs (q_cmp hE hxx hy) hlo hst' hG hlc kk
    cases cc with
    | eq => exact lv_icmp_eq hx hb hd ht (fun q => B.1 (q_holdeq q)) (fun q => B.2 (q_nholdeq q))
    | ne => exact lv_icmp_ne hx hb hd ht (fun q => B.1 (q_holdne q)) (fun q => B.2 (q_nholdne q))
    | lt => exact lv_icmp_lt hx hb hd ht (fun q => B.1 (q_holdlt q)) (fun q => B.2 (q_nholdlt q))
    | ge => exact lv_icmp_ge hx hb hd ht (fun q => B.1 (q_holdge q)) (fun q => B.2 (q_nholdge q))
    | gt => exact lv_icmp_gt hx hb hd ht (fun q => B.1 (q_holdgt q)) (fun q => B.2 (q_nholdgt q))
    | le => exact lv_icmp_le hx hb hd ht (fun q => B.1 (q_holdle q)) (fun q => B.2 (q_nholdle q))
  · cases hs
theorem q_goto {cz : Int} (C : q_Ctx p R s m args meth c dC dI dA r b base L Hb k) (hi : ins k pc = some (.goto cz, nx, a1, a2, a3, z)) (hs : (p_go a1 lo st E h : Option pS) = some (.inl l0)) (F : q_Fr dC dI dA r b base Hb (mL k) (pc, lo, st, E, h) ls vs H locs) (kk : q_KK p l e R s m args below meth c cells slots Q dC dI dA r b base Hb k l0) : W p l e R s m args below meth c H locs cells slots Q (F0 m pc ls vs) := by
  obtain ⟨hx, hb, hml, hown, hts, hK, hnm, hbb, hRf, hRl, hk9⟩ := C
  obtain ⟨hlo, hst, hE, hG, hlc⟩ := F
  obtain ⟨en, hd⟩ := q_dec (n := 3) hk9 hi rfl
  have hc := (q_row hk9 hi).2.2.1
  simp only [c_I, Bool.and_eq_true, decide_eq_true_eq] at hc
  exact lv_goto hx hb hd hc.1 (q_go hs kk ⟨hlo, hst, hE, hG, hlc⟩)
theorem q_dup  (C : q_Ctx p R s m args meth c dC dI dA r b base L Hb k) (hi : ins k pc = some (.dup, nx, a1, a2, a3, z)) (hs : ((match st with
      | a :: rs => bif Nat.beq (p_cat a) 1 then p_go nx lo (a :: a :: rs) E h else none
      | _ => none) : Option pS) = some (.inl l0)) (F : q_Fr dC dI dA r b base Hb (mL k) (pc, lo, st, E, h) ls vs H locs) (kk : q_KK p l e R s m args below meth c cells slots Q dC dI dA r b base Hb k l0) : W p l e R s m args below meth c H locs cells slots Q (F0 m pc ls vs) := by
  obtain ⟨hx, hb, hml, hown, hts, hK, hnm, hbb, hRf, hRl, hk9⟩ := C
  obtain ⟨hlo, hst, hE, hG, hlc⟩ := F
  obtain ⟨en, hd⟩ := q_dec (n := 1) hk9 hi rfl
  subst en
  split at hs
  · obtain ⟨w, vs', rfl, hw, hst'⟩ := hst
    rename_i a rs
    cases h1 : Nat.beq (p_cat a) 1 with
    | false => rw [h1] at hs; cases hs
    | true =>
      rw [h1] at hs
      exact lv_dup hx hb hd ((q_cat hw).trans (Nat.eq_of_beq_eq_true h1)) (q_go hs kk ⟨hlo, ⟨_, _, rfl, hw, _, _, rfl, hw, hst'⟩, hE, hG, hlc⟩)
  · cases hs
theorem q_pop  (C : q_Ctx p R s m args meth c dC dI dA r b base L Hb k) (hi : ins k pc = some (.pop, nx, a1, a2, a3, z)) (hs : ((match st with
      | a :: rs => bif Nat.beq (p_cat a) 1 then p_go nx lo rs E h else none
      | _ => none) : Option pS) = some (.inl l0)) (F : q_Fr dC dI dA r b base Hb (mL k) (pc, lo, st, E, h) ls vs H locs) (kk : q_KK p l e R s m args below meth c cells slots Q dC dI dA r b base Hb k l0) : W p l e R s m args below meth c H locs cells slots Q (F0 m pc ls vs) := by
  obtain ⟨hx, hb, hml, hown, hts, hK, hnm, hbb, hRf, hRl, hk9⟩ := C
  obtain ⟨hlo, hst, hE, hG, hlc⟩ := F
  obtain ⟨en, hd⟩ := q_dec (n := 1) hk9 hi rfl
  subst en
  split at hs
  · obtain ⟨w, vs', rfl, hw, hst'⟩ := hst
    rename_i a rs
    cases h1 : Nat.beq (p_cat a) 1 with
    | false => rw [h1] at hs; cases hs
    | true =>
      rw [h1] at hs
      exact lv_pop hx hb hd ((q_cat hw).trans (Nat.eq_of_beq_eq_true h1)) (q_go hs kk ⟨hlo, hst', hE, hG, hlc⟩)
  · cases hs
theorem q_dup_x1  (C : q_Ctx p R s m args meth c dC dI dA r b base L Hb k) (hi : ins k pc = some (.dup_x1, nx, a1, a2, a3, z)) (hs : ((match st with
      | a :: d :: rs => bif Nat.beq (p_cat a) 1 && Nat.beq (p_cat d) 1 then p_go nx lo (a :: d :: a :: rs) E h else none
      | _ => none) : Option pS) = some (.inl l0)) (F : q_Fr dC dI dA r b base Hb (mL k) (pc, lo, st, E, h) ls vs H locs) (kk : q_KK p l e R s m args below meth c cells slots Q dC dI dA r b base Hb k l0) : W p l e R s m args below meth c H locs cells slots Q (F0 m pc ls vs) := by
  obtain ⟨hx, hb, hml, hown, hts, hK, hnm, hbb, hRf, hRl, hk9⟩ := C
  obtain ⟨hlo, hst, hE, hG, hlc⟩ := F
  obtain ⟨en, hd⟩ := q_dec (n := 1) hk9 hi rfl
  subst en
  split at hs
  · obtain ⟨w, vs', rfl, hw, w2, vs2, rfl, hw2, hst'⟩ := hst
    rename_i a d rs
    cases h1 : Nat.beq (p_cat a) 1 with
    | false => rw [h1] at hs; cases hs
    | true =>
      cases h2 : Nat.beq (p_cat d) 1 with
      | false => rw [h1, h2] at hs; cases hs
      | true =>
        rw [h1, h2] at hs
        exact lv_dup_x1 hx hb hd ((q_cat hw).trans (Nat.eq_of_beq_eq_true h1)) ((q_cat hw2).trans (Nat.eq_of_beq_eq_true h2)) (q_go hs kk ⟨hlo, ⟨_, _, rfl, hw, _, _, rfl, hw2, _, _, rfl, hw, hst'⟩, hE, hG, hlc⟩)
  · cases hs
theorem q_dup2  (C : q_Ctx p R s m args meth c dC dI dA r b base L Hb k) (hi : ins k pc = some (.dup2, nx, a1, a2, a3, z)) (hs : ((match st with
      | a :: d :: rs => bif Nat.beq (p_cat a) 1 && Nat.beq (p_cat d) 1 then p_go nx lo (a :: d :: a :: d :: rs) E h else none
      | _ => none) : Option pS) = some (.inl l0)) (F : q_Fr dC dI dA r b base Hb (mL k) (pc, lo, st, E, h) ls vs H locs) (kk : q_KK p l e R s m args below meth c cells slots Q dC dI dA r b base Hb k l0) : W p l e R s m args below meth c H locs cells slots Q (F0 m pc ls vs) := by
  obtain ⟨hx, hb, hml, hown, hts, hK, hnm, hbb, hRf, hRl, hk9⟩ := C
  obtain ⟨hlo, hst, hE, hG, hlc⟩ := F
  obtain ⟨en, hd⟩ := q_dec (n := 1) hk9 hi rfl
  subst en
  split at hs
  · obtain ⟨w, vs', rfl, hw, w2, vs2, rfl, hw2, hst'⟩ := hst
    rename_i a d rs
    cases h1 : Nat.beq (p_cat a) 1 with
    | false => rw [h1] at hs; cases hs
    | true =>
      cases h2 : Nat.beq (p_cat d) 1 with
      | false => rw [h1, h2] at hs; cases hs
      | true =>
        rw [h1, h2] at hs
        exact lv_dup2_11 hx hb hd ((q_cat hw).trans (Nat.eq_of_beq_eq_true h1)) ((q_cat hw2).trans (Nat.eq_of_beq_eq_true h2)) (q_go hs kk ⟨hlo, ⟨_, _, rfl, hw, _, _, rfl, hw2, _, _, rfl, hw, _, _, rfl, hw2, hst'⟩, hE, hG, hlc⟩)
  · cases hs
end Step
