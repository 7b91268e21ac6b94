/-! Locals, cells, the heap. -/
def q_Lo (r : Nat → Int32) (b base : Nat) (lo : pL) (ls : Array Slot) (n : Nat) : Prop := ls.size = n ∧ lv_wf ls ∧ ∀ q ∈ lo, ∃ v, ls[q.1]? = some (.val v) ∧ q_A r b base q.2 v
def q_rv (ls : Array Slot) (i : Nat) : Value := match ls[i]? with
  | some (.val v) => v
  | _ => .null
/-- the true locals of those that the machine knows -/
def q_lv (ls : Array Slot) (lo : pL) : List (Nat × Value) := lo.map (fun q => (q.1, q_rv ls q.1))
section Locals
variable {r : Nat → Int32} {b base : Nat} {lo : pL} {ls : Array Slot} {n : Nat}
theorem q_Lo.has (h : q_Lo r b base lo ls n) : lv_has ls n (q_lv ls lo) := by
  refine ⟨h.1, h.2.1, fun q hq => ?_⟩
  obtain ⟨q0, h0, rfl⟩ := List.mem_map.mp hq
  obtain ⟨v, h1, -⟩ := h.2.2 q0 h0
  show ls[q0.1]? = some (.val (q_rv ls q0.1))
  simp [q_rv, h1]
theorem q_lget : ∀ {lo : pL} {i : Nat} {a : pA}, p_lget lo i = some a → (i, a) ∈ lo
  | [], i, a, h => by cases h
  | q :: rr, i, a, h => by
    simp only [p_lget, cond_eq_ite] at h
    split at h
    · rename_i e
      cases h
      rw [← Nat.eq_of_beq_eq_true e]
      exact List.mem_cons_self
    · exact List.mem_cons_of_mem _ (q_lget h)
theorem q_Lo.get {i : Nat} {a : pA} (h : q_Lo r b base lo ls n) (hi : p_lget lo i = some a) : ∃ v, ls[i]? = some (.val v) ∧ q_A r b base a v := h.2.2 _ (q_lget hi)
/-- behind a store of one word -/
theorem q_Lo.put {i : Nat} {a : pA} {v : Value} {ls' : Array Slot} (h : q_Lo r b base lo ls n) (hv : q_A r b base a v)
    (h' : lv_has ls' n ((i, v) :: (q_lv ls lo).filter (fun q => !(q.1 == i) && !(q.1 + 1 == i && q.2.category == 2)))) : q_Lo r b base (p_lset lo i a) ls' n := by
  refine ⟨h'.1, h'.2.1, fun q hq => ?_⟩
  rcases List.mem_cons.mp hq with e | hq
  · subst e
    exact ⟨v, h'.2.2 (i, v) List.mem_cons_self, hv⟩
  · obtain ⟨hq1, hq2⟩ := List.mem_filter.mp hq
    obtain ⟨w, h1, h2⟩ := h.2.2 q hq1
    have hw : q_rv ls q.1 = w := by simp [q_rv, h1]
    refine ⟨w, ?_, h2⟩
    have := h'.2.2 (q.1, w) (List.mem_cons_of_mem _ (List.mem_filter.mpr ⟨List.mem_map.mpr ⟨q, hq1, by rw [hw]⟩, ?_⟩))
    · exact this
    · have hc := q_cat h2
      show (!(q.1 == i) && !(q.1 + 1 == i && w.category == 2)) = true
      rw [hc]
      have e1 : ∀ x y : Nat, (x == y) = Nat.beq x y := fun x y => by
        cases hb : Nat.beq x y with
        | true => simp [Nat.eq_of_beq_eq_true hb]
        | false => simp [Nat.ne_of_beq_eq_false hb]
      rw [e1, e1, e1]
      exact hq2
end Locals
/-- what the cell at a place is -/
def q_C (dC : Nat → ClassId) (dI : Nat → Nat → Nat) (dA : FieldType → ClassId) (r : Nat → Int32) (b base : Nat) (a : Nat) (H : Heap) : pC → Prop
  | .inl (ty, n, f) => ∃ g : Nat → Int32, H[a]? = some (vp_cell (dA ty) (n, .inl g)) ∧ (∀ j, j < n → q_V r (f j) (g j)) ∧ (ty = .int ∨ ty = .byte ∨ ty = .boolean ∨ ty = .char)
  | .inr (.inl n) => ∃ g : Nat → Int64, H[a]? = some (vp_cell (dA .long) (n, .inr (.inl g)))
  | .inr (.inr (.inl (n, f))) => ∃ g : Nat → Option Nat, H[a]? = some (vp_cell (dA (.array .int)) (n, .inr (.inr (.inr (.inr g))))) ∧ ∀ j, j < n → va_rf (g j) = q_rf b base (f j)
  | .inr (.inr (.inr (ci, fs))) => ∃ (vs : List Value) (q : vw_C), q_L r b base fs vs ∧ vwCl[ci]? = some q ∧ t_OB a (dC ci) q.2.2 (dI ci) H (vp_V vs)
/-- the heap: nothing older than the law's start has changed; the cells; their number, as long as nothing else was made -/
def q_G (dC : Nat → ClassId) (dI : Nat → Nat → Nat) (dA : FieldType → ClassId) (r : Nat → Int32) (b base : Nat) (Hb : Heap) (E : pE) (h : pH) (H : Heap) : Prop :=
  (∀ q : Nat, q < base → H[q]? = Hb[q]?) ∧ base ≤ H.size ∧ (E.1 = true → H.size = base + h.length) ∧ ∀ (k : Nat) (c : pC), h[k]? = some c → q_C dC dI dA r b base (base + k) H c
section Heaps
variable {dC : Nat → ClassId} {dI : Nat → Nat → Nat} {dA : FieldType → ClassId} {r : Nat → Int32} {b base : Nat} {Hb H H1 : Heap} {E E1 : pE} {h : pH}
theorem q_C.kept {a : Nat} {c : pC} (hc : q_C dC dI dA r b base a H c) (e : H1[a]? = H[a]?) : q_C dC dI dA r b base a H1 c := by
  rcases c with ⟨ty, n, f⟩ | n | ⟨n, f⟩ | ⟨ci, fs⟩
  · obtain ⟨g, h1, h2, h3⟩ := hc
    exact ⟨g, by rw [e]; exact h1, h2, h3⟩
  · obtain ⟨g, h1⟩ := hc
    exact ⟨g, by rw [e]; exact h1⟩
  · obtain ⟨g, h1, h2⟩ := hc
    exact ⟨g, by rw [e]; exact h1, h2⟩
  · obtain ⟨vs, q, h1, h2, h3⟩ := hc
    exact ⟨vs, q, h1, h2, h3.kept e⟩
theorem q_C.lt {a : Nat} {c : pC} (hc : q_C dC dI dA r b base a H c) : a < H.size := by
  rcases c with ⟨ty, n, f⟩ | n | ⟨n, f⟩ | ⟨ci, fs⟩
  · obtain ⟨g, h1, h2⟩ := hc
    exact (Array.getElem?_eq_some_iff.mp h1).1
  · obtain ⟨g, h1⟩ := hc
    exact (Array.getElem?_eq_some_iff.mp h1).1
  · obtain ⟨g, h1, h2⟩ := hc
    exact (Array.getElem?_eq_some_iff.mp h1).1
  · obtain ⟨vs, q, h1, h2, cell, h3, -⟩ := hc
    exact (Array.getElem?_eq_some_iff.mp h3).1
theorem q_G.env (hG : q_G dC dI dA r b base Hb E h H) (e : E1.1 = E.1) : q_G dC dI dA r b base Hb E1 h H := ⟨hG.1, hG.2.1, by rw [e]; exact hG.2.2.1, hG.2.2.2⟩
theorem q_G.set {k : Nat} {c0 c : pC} (hG : q_G dC dI dA r b base Hb E h H) (hk : h[k]? = some c0) (hz : H1.size = H.size) (ho : ∀ q : Nat, q ≠ base + k → H1[q]? = H[q]?) (hc : q_C dC dI dA r b base (base + k) H1 c) : q_G dC dI dA r b base Hb E (h.set k c) H1 := by
  have hl := (List.getElem?_eq_some_iff.mp hk).1
  refine ⟨fun q hq => (ho q (by omega)).trans (hG.1 q hq), by rw [hz]; exact hG.2.1, by rw [hz, List.length_set]; exact hG.2.2.1, fun j c1 hj => ?_⟩
  by_cases e : j = k
  · subst e
    rw [List.getElem?_set_self hl] at hj
    cases hj
    exact hc
  · rw [List.getElem?_set_ne (Ne.symm e)] at hj
    exact (hG.2.2.2 j c1 hj).kept (ho _ (by omega))
theorem q_G.app {cs : List pC} (hG : q_G dC dI dA r b base Hb E h H) (hE : E.1 = true) (hz : H1.size = H.size + cs.length) (ho : ∀ q : Nat, q < H.size → H1[q]? = H[q]?) (hc : ∀ (j : Nat) (c : pC), cs[j]? = some c → q_C dC dI dA r b base (H.size + j) H1 c) : q_G dC dI dA r b base Hb E (h ++ cs) H1 := by
  have hs := hG.2.2.1 hE
  refine ⟨fun q hq => (ho q (by omega)).trans (hG.1 q hq), by have := hG.2.1; omega, fun _ => by rw [List.length_append]; omega, fun j c1 hj => ?_⟩
  by_cases hl : j < h.length
  · rw [List.getElem?_append_left hl] at hj
    exact (hG.2.2.2 j c1 hj).kept (ho _ (hG.2.2.2 j c1 hj).lt)
  · rw [List.getElem?_append_right (by omega)] at hj
    have := hc _ c1 hj
    rwa [show H.size + (j - h.length) = base + j by omega] at this
theorem q_obj {q ci : Nat} {fs : List pA} (hG : q_G dC dI dA r b base Hb E h H) (ho : p_obj h q = some (ci, fs)) : h[q]? = some (.inr (.inr (.inr (ci, fs)))) ∧ ∃ (vs : List Value) (w : vw_C), q_L r b base fs vs ∧ vwCl[ci]? = some w ∧ t_OB (base + q) (dC ci) w.2.2 (dI ci) H (vp_V vs) := by
  have h1 : h[q]? = some (.inr (.inr (.inr (ci, fs)))) := by
    unfold p_obj at ho
    split at ho
    · rename_i o e
      cases ho
      exact e
    · cases ho
  exact ⟨h1, hG.2.2.2 q _ h1⟩
theorem q_arr {q n : Nat} {ty : FieldType} {f : Nat → pV} (hG : q_G dC dI dA r b base Hb E h H) (ho : p_arr h q = some (ty, n, f)) : h[q]? = some (.inl (ty, n, f)) ∧ ∃ g : Nat → Int32, H[base + q]? = some (vp_cell (dA ty) (n, .inl g)) ∧ (∀ j, j < n → q_V r (f j) (g j)) ∧ (ty = .int ∨ ty = .byte ∨ ty = .boolean ∨ ty = .char) := by
  have h1 : h[q]? = some (.inl (ty, n, f)) := by
    unfold p_arr at ho
    split at ho
    · rename_i o e
      cases ho
      exact e
    · cases ho
  exact ⟨h1, hG.2.2.2 q _ h1⟩
theorem q_rar {q n : Nat} {f : Nat → Option Nat} (hG : q_G dC dI dA r b base Hb E h H) (ho : p_rar h q = some (n, f)) : ∃ g : Nat → Option Nat, H[base + q]? = some (vp_cell (dA (.array .int)) (n, .inr (.inr (.inr (.inr g))))) ∧ ∀ j, j < n → va_rf (g j) = q_rf b base (f j) := by
  have h1 : h[q]? = some (.inr (.inr (.inl (n, f)))) := by
    unfold p_rar at ho
    split at ho
    · rename_i o e
      cases ho
      exact e
    · cases ho
  exact hG.2.2.2 q _ h1
end Heaps
/-- the array classes that are used -/
def q_tys (dA : FieldType → ClassId) : List (ClassId × FieldType) := [(dA .int, .int), (dA .byte, .byte), (dA .boolean, .boolean), (dA .char, .char), (dA .long, .long), (dA (.array .int), .array .int)]
/-- the words of a throw that don't keep by themselves, and the texts -/
def q_iS (n : String) : MethodName := ⟨n, "<init>", "(Ljava/lang/String;)V"⟩
def q_nse : String := "java/util/NoSuchElementException"
def q_xw : List Cond := [Cond.declares (q_iS "java/lang/RuntimeException"), Cond.declares (q_iS "java/lang/Exception"), Cond.declares (q_iS "java/lang/Throwable"), Cond.castable q_nse q_nse]
def q_xs : List (Nat × String) := [(121, "there is no such one of PEOPLE"), (142, "nothing such is told of PEOPLE"), (147, "there is no such CLOTH"), (164, "nothing such is told of CLOTHS"), (256, "there is no such piece in THE BOX"), (449, "the ROW has no such number")]
def q_KX (Hb : Heap) (U : State) : Prop := (∀ w ∈ q_xw, va_Nw w U) ∧ (∀ q ∈ q_xs, ∃ sa, vk_R "SkirtsByTheDay" q.1 q.2 sa U) ∧ vx_Zq Bundle.tN "UNASSIGNED_STACK" Bundle.steD (fun q => Hb.size ≤ q) U Hb ∧ vx_Zq Bundle.tN "SUPPRESSED_SENTINEL" Bundle.listD (fun q => Hb.size ≤ q) U Hb
/-- what the tables say at a state, beside the words: classes, array classes, the script, the nest's words, what a throw needs -/
def q_K (dC : Nat → ClassId) (dI : Nat → Nat → Nat) (dA : FieldType → ClassId) (r : Nat → Int32) (b L : Nat) (Hb : Heap) (U : State) : Prop :=
  va_K (dC, dI) vwCl (q_tys dA) U ∧ va_X b L r U Hb ∧ (∀ w ∈ nw, va_Nw w U) ∧ va_AOA .int U ∧ q_KX Hb U
