/-! Who wears it; a cloth made long on the reference's rows; rows laid; what the reference remembers. -/
/-- the first from p on, of j, at which it is c -/
noncomputable def wIx (f : Nat → Int) (c : Int) : Nat → Nat → Int
  | _, 0 => -1
  | p, j + 1 => if f p = c then (p : Int) else wIx f c (p + 1) j
theorem zbd87 {i j : Nat} {v : Int} (h : i % 59 = j % 59) (hv : zbd 87 i v) : zbd 87 j v := by
  show (match zb75 (j % 59) with
    | some q => q.1 ≤ v ∧ v ≤ q.2
    | none => True)
  rw [← h]
  exact hv
theorem zbd8775 {u j : Nat} {v : Int} (hj : j < 59) (hv : zbd 75 j v) : zbd 87 (59 * u + j) v := by
  show (match zb75 ((59 * u + j) % 59) with
    | some q => q.1 ≤ v ∧ v ≤ q.2
    | none => True)
  rw [show (59 * u + j) % 59 = j by omega]
  exact hv
theorem zbd7587 {u j : Nat} {v : Int} (hj : j < 59) (hv : zbd 87 (59 * u + j) v) : zbd 75 j v := by
  have e : (59 * u + j) % 59 = j := by omega
  have h : (match zb75 ((59 * u + j) % 59) with
    | some q => q.1 ≤ v ∧ v ≤ q.2
    | none => True) := hv
  rw [e] at h
  exact h
theorem zbd10675 {u j : Nat} {v : Int} (hj : j < 59) (hv : zbd 75 j v) : zbd 106 (59 * u + j) v := zbd8775 (u := u) hj hv
theorem zbd75106 {u j : Nat} {v : Int} (hj : j < 59) (hv : zbd 106 (59 * u + j) v) : zbd 75 j v := zbd7587 (u := u) hj hv
theorem z_cp_s {m : zM} {q0 q1 sp dp n : Nat} (h : q0 ≠ q1) : zu (z_cp m q0 q1 sp dp n) q1 (dp + n) (z_cp m q0 q1 sp dp n q0 (sp + n)) = z_cp m q0 q1 sp dp (n + 1) := by
  funext c j
  by_cases e : c = q1
  · subst e
    rw [z_cp_dn h]
    by_cases e2 : j = dp + n
    · subst e2
      rw [zu_sm rfl, z_cp_in (by omega)]
      congr 1
      omega
    · rw [zu_off e2]
      by_cases e3 : dp ≤ j ∧ j < dp + n
      · rw [z_cp_in e3, z_cp_in (by omega)]
      · rw [z_cp_of e3, z_cp_of (by omega)]
  · rw [zu_dn e, z_cp_dn e, z_cp_dn e]
theorem z_cp_0 {m : zM} {q0 q1 sp dp : Nat} : z_cp m q0 q1 sp dp 0 = m := by
  funext c j
  by_cases e : c = q1
  · subst e
    rw [z_cp_of (by omega)]
  · rw [z_cp_dn e]
theorem zu_dnR {m : zM} {q c i : Nat} {v : Int} (h : c ≠ q) : zu m q i v c = m c := zu_ne h
section ZCore2
variable {T : Nat → Nat → zG → (Option zA → zM → Prop) → Prop} {D : Nat} {κ : Option zA → zM → Prop} {m : zM}
theorem z_wearerOf (hT : zRules T) {c : Int} {n : Nat} (hB : zB m) (hc : -1 ≤ c ∧ c ≤ 100) (hn : m 17 0 = (n : Int)) (h : κ (some (zi (wIx (m 20) c 0 n))) m) : T (D + 1) 29 (0, [(0, zr 17), (1, zi c)], [], m) κ := by
  have hN : 0 ≤ m 17 0 ∧ m 17 0 ≤ 6 := hB 17 0
  have key : ∀ j p : Nat, p + j = n → κ (some (zi (wIx (m 20) c p j))) m → T (D + 1) 29 (2, [(0, zr 17), (1, zi c), (2, zi (p : Int))], [], m) κ := by
    intro j
    induction j with
    | zero =>
      intro p hp hk
      exact zb29_2 hT rfl hB hc (by omega) (fun _ => hk) (fun h1 => by omega) (fun h1 => by omega)
    | succ j ih =>
      intro p hp hk
      refine zb29_2 hT rfl hB hc (by omega) (fun h1 => by omega) (fun h1 h2 => ?_) (fun h1 h2 => ?_)
      · rw [wIx, if_neg h2] at hk
        exact ih (p + 1) (by omega) hk
      · rw [wIx, if_pos h2] at hk
        exact hk
  exact zb29_0 hT hB hc (key n 0 (by omega) h)
theorem z_wearer (hT : zRules T) {c : Int} {n : Nat} (hB : zB m) (hc : -1 ≤ c ∧ c ≤ 100) (hn : m 74 4 = (n : Int)) (h : κ (some (zi (wIx (fun p => m 75 (p + 6)) c 0 n))) m) : T (D + 1) 217 (0, [(0, zr 74), (1, zr 75), (2, zi c)], [], m) κ := by
  have hN : 0 ≤ m 74 4 ∧ m 74 4 ≤ 6 := hB 74 4
  have key : ∀ j p : Nat, p + j = n → κ (some (zi (wIx (fun p => m 75 (p + 6)) c p j))) m → T (D + 1) 217 (2, [(0, zr 74), (1, zr 75), (2, zi c), (3, zi (p : Int))], [], m) κ := by
    intro j
    induction j with
    | zero =>
      intro p hp hk
      exact zb217_2 hT rfl hB hc (by omega) (fun _ => hk) (fun h1 => by omega) (fun h1 => by omega)
    | succ j ih =>
      intro p hp hk
      refine zb217_2 hT rfl hB hc (by omega) (fun h1 => by omega) (fun h1 h2 => ?_) (fun h1 h2 => ?_)
      · rw [wIx, if_neg h2] at hk
        exact ih (p + 1) (by omega) hk
      · rw [wIx, if_pos h2] at hk
        exact hk
  exact zb217_0 hT hB hc (key n 0 (by omega) h)
theorem wIx_congr {f g : Nat → Int} {c : Int} : ∀ (j p : Nat), (∀ i, p ≤ i → i < p + j → f i = g i) → wIx f c p j = wIx g c p j
  | 0, _, _ => rfl
  | j + 1, p, h => by
    rw [wIx, wIx, h p (by omega) (by omega), wIx_congr j (p + 1) (fun i h1 h2 => h i (by omega) (by omega))]
theorem wIx_rng {f : Nat → Int} {c : Int} : ∀ (j p : Nat), wIx f c p j = -1 ∨ ((p : Int) ≤ wIx f c p j ∧ wIx f c p j < (p : Int) + j)
  | 0, _ => Or.inl rfl
  | j + 1, p => by
    rw [wIx]
    split
    · exact Or.inr ⟨by omega, by omega⟩
    · rcases wIx_rng j (p + 1) with h | h
      · exact Or.inl h
      · exact Or.inr ⟨by omega, by omega⟩
theorem z_lay_75_91 (hT : zRules T) {k : Nat} (hk : k ≤ 0) (h : κ none (z_cp m 75 91 0 k 59)) : T (D + 1) 228 (0, [(0, zr 75), (1, zr 91), (2, zi (k : Int))], [], m) κ := by
  have key : ∀ j i : Nat, i + j = 59 → T (D + 1) 228 (2, [(0, zr 75), (1, zr 91), (2, zi (k : Int)), (3, zi (i : Int))], [], z_cp m 75 91 0 k i) κ := by
    intro j
    induction j with
    | zero =>
      intro i hi
      have ei : i = 59 := by omega
      subst ei
      exact zb228_2_75_91 hT rfl hk (by omega) (fun _ => h) (fun h1 => by omega)
    | succ j ih =>
      intro i hi
      refine zb228_2_75_91 hT rfl hk (by omega) (fun h1 => by omega) (fun h1 => ?_)
      have e := z_cp_s (m := m) (q0 := 75) (q1 := 91) (sp := 0) (dp := k) (n := i) (by omega)
      rw [Nat.zero_add] at e
      rw [e]
      exact ih (i + 1) (by omega)
  refine zb228_0_75_91 hT (by omega) ?_
  have := key 59 0 (by omega)
  rw [z_cp_0] at this
  exact this
theorem z_lay_75_88 (hT : zRules T) {k : Nat} (hk : k ≤ 0) (h : κ none (z_cp m 75 88 0 k 59)) : T (D + 1) 228 (0, [(0, zr 75), (1, zr 88), (2, zi (k : Int))], [], m) κ := by
  have key : ∀ j i : Nat, i + j = 59 → T (D + 1) 228 (2, [(0, zr 75), (1, zr 88), (2, zi (k : Int)), (3, zi (i : Int))], [], z_cp m 75 88 0 k i) κ := by
    intro j
    induction j with
    | zero =>
      intro i hi
      have ei : i = 59 := by omega
      subst ei
      exact zb228_2_75_88 hT rfl hk (by omega) (fun _ => h) (fun h1 => by omega)
    | succ j ih =>
      intro i hi
      refine zb228_2_75_88 hT rfl hk (by omega) (fun h1 => by omega) (fun h1 => ?_)
      have e := z_cp_s (m := m) (q0 := 75) (q1 := 88) (sp := 0) (dp := k) (n := i) (by omega)
      rw [Nat.zero_add] at e
      rw [e]
      exact ih (i + 1) (by omega)
  refine zb228_0_75_88 hT (by omega) ?_
  have := key 59 0 (by omega)
  rw [z_cp_0] at this
  exact this
theorem z_lay_75_87 (hT : zRules T) {k : Nat} (hk : k ≤ 649) (h : κ none (z_cp m 75 87 0 k 59)) : T (D + 1) 228 (0, [(0, zr 75), (1, zr 87), (2, zi (k : Int))], [], m) κ := by
  have key : ∀ j i : Nat, i + j = 59 → T (D + 1) 228 (2, [(0, zr 75), (1, zr 87), (2, zi (k : Int)), (3, zi (i : Int))], [], z_cp m 75 87 0 k i) κ := by
    intro j
    induction j with
    | zero =>
      intro i hi
      have ei : i = 59 := by omega
      subst ei
      exact zb228_2_75_87 hT rfl hk (by omega) (fun _ => h) (fun h1 => by omega)
    | succ j ih =>
      intro i hi
      refine zb228_2_75_87 hT rfl hk (by omega) (fun h1 => by omega) (fun h1 => ?_)
      have e := z_cp_s (m := m) (q0 := 75) (q1 := 87) (sp := 0) (dp := k) (n := i) (by omega)
      rw [Nat.zero_add] at e
      rw [e]
      exact ih (i + 1) (by omega)
  refine zb228_0_75_87 hT (by omega) ?_
  have := key 59 0 (by omega)
  rw [z_cp_0] at this
  exact this
theorem z_lay_88_87 (hT : zRules T) {k : Nat} (hk : k ≤ 649) (h : κ none (z_cp m 88 87 0 k 59)) : T (D + 1) 228 (0, [(0, zr 88), (1, zr 87), (2, zi (k : Int))], [], m) κ := by
  have key : ∀ j i : Nat, i + j = 59 → T (D + 1) 228 (2, [(0, zr 88), (1, zr 87), (2, zi (k : Int)), (3, zi (i : Int))], [], z_cp m 88 87 0 k i) κ := by
    intro j
    induction j with
    | zero =>
      intro i hi
      have ei : i = 59 := by omega
      subst ei
      exact zb228_2_88_87 hT rfl hk (by omega) (fun _ => h) (fun h1 => by omega)
    | succ j ih =>
      intro i hi
      refine zb228_2_88_87 hT rfl hk (by omega) (fun h1 => by omega) (fun h1 => ?_)
      have e := z_cp_s (m := m) (q0 := 88) (q1 := 87) (sp := 0) (dp := k) (n := i) (by omega)
      rw [Nat.zero_add] at e
      rw [e]
      exact ih (i + 1) (by omega)
  refine zb228_0_88_87 hT (by omega) ?_
  have := key 59 0 (by omega)
  rw [z_cp_0] at this
  exact this
theorem z_lay_75_106 (hT : zRules T) {k : Nat} (hk : k ≤ 59) (h : κ none (z_cp m 75 106 0 k 59)) : T (D + 1) 228 (0, [(0, zr 75), (1, zr 106), (2, zi (k : Int))], [], m) κ := by
  have key : ∀ j i : Nat, i + j = 59 → T (D + 1) 228 (2, [(0, zr 75), (1, zr 106), (2, zi (k : Int)), (3, zi (i : Int))], [], z_cp m 75 106 0 k i) κ := by
    intro j
    induction j with
    | zero =>
      intro i hi
      have ei : i = 59 := by omega
      subst ei
      exact zb228_2_75_106 hT rfl hk (by omega) (fun _ => h) (fun h1 => by omega)
    | succ j ih =>
      intro i hi
      refine zb228_2_75_106 hT rfl hk (by omega) (fun h1 => by omega) (fun h1 => ?_)
      have e := z_cp_s (m := m) (q0 := 75) (q1 := 106) (sp := 0) (dp := k) (n := i) (by omega)
      rw [Nat.zero_add] at e
      rw [e]
      exact ih (i + 1) (by omega)
  refine zb228_0_75_106 hT (by omega) ?_
  have := key 59 0 (by omega)
  rw [z_cp_0] at this
  exact this
theorem z_makes_75 (hT : zRules T) {c : Nat} {v : Int} {a : zS} (hB : zB m) (hc : c ≤ 7) (hv : 0 ≤ v ∧ v ≤ 99) (hR : RelR 75 m a)
    (h : ∀ m1, zB m1 → zFr (mkW 75) m m1 → RelR 75 m1 (mkA (m 79 0) a c v) → κ none m1) : T (D + 2) 226 (0, [(0, zr 74), (1, zr 75), (2, zi (c : Int)), (3, zi v)], [], m) κ := by
  obtain ⟨r1, b1, b2, b3⟩ := hR
  have e1 : a.1 (c + 12) = m 75 (c + 12) := by rw [r1]
  have e2 : a.1 (c + 20) = m 75 (c + 20) := by rw [r1]
  have e3 : a.1 (c + 28) = m 75 (c + 28) := by rw [r1]
  have e5 : a.1 56 = m 75 56 := by rw [r1]
  have hB5 : 0 ≤ m 75 56 ∧ m 75 56 ≤ 20 := hB 75 56
  have hB9 : 0 ≤ m 79 0 ∧ m 79 0 ≤ 9 := hB 79 0
  have w1 := zSg hB 75 12 20 (-1) 99 rfl (c + 12) (by omega) (by omega)
  have w2 := zSg hB 75 20 28 (-1) 9 rfl (c + 20) (by omega) (by omega)
  refine zb226_0_75 hT hB hc hv ?_ ?_ ?_ ?_ ?_
  · intro a1 a2 a3 a4
    have hs : (zu (zu (zu (zu (zu m 75 (c + 12) v) 75 (c + 20) (m 79 0)) 74 32 ((m 74 32) + 2)) 74 33 ((m 74 33) + ((((m 75 (c + 12)) + (m 75 (c + 20))) - v) - (m 79 0)))) 75 ((36 + (m 75 56)).toNat) ((((m 75 (c + 12)) + (m 75 (c + 20))) - v) - (m 79 0))) 75 56 = m 75 56 := by
      simp (disch := omega) only [zu_off, zu_dn]
    rw [hs]
    refine h _ ?_ ((((((zFr.refl.set rfl).set rfl).set rfl).set rfl).set rfl).set rfl) ⟨?_, ?_, ?_, ?_⟩
    · refine zB_u (zB_u (zB_u (zB_u (zB_u (zB_u hB (zbSg 75 12 20 (-1) 99 rfl _ _ (by omega) (by omega) ⟨by omega, by omega⟩)) (zbSg 75 20 28 (-1) 9 rfl _ _ (by omega) (by omega) ⟨by omega, by omega⟩)) trivial) trivial) (zbSg 75 36 56 0 108 rfl _ _ (by omega) (by omega) ⟨by omega, by omega⟩)) ?_
      show 0 ≤ m 75 56 + 1 ∧ m 75 56 + 1 ≤ 20
      omega
    · rw [mkA, if_neg (by omega), if_neg (by omega), if_pos (by omega), if_neg (by omega)]
      simp (disch := omega) only [zu_row, zu_dnR, r1]
    · rw [mkA, if_neg (by omega), if_neg (by omega), if_pos (by omega)]
      simp (disch := omega) only [zu_dn, zu_off]
      exact b1
    · rw [mkA, if_neg (by omega), if_neg (by omega), if_pos (by omega)]
      simp (disch := omega) only [zu_dn, zu_off, zu_sm]
      omega
    · rw [mkA, if_neg (by omega), if_neg (by omega), if_pos (by omega)]
      simp (disch := omega) only [zu_dn, zu_off, zu_sm]
      omega
  · intro a1 a2 a3 a4 hz
    refine h _ hz ((((zFr.refl.set rfl).set rfl).set rfl).set rfl) ⟨?_, ?_, ?_, ?_⟩
    · rw [mkA, if_neg (by omega), if_neg (by omega), if_pos (by omega), if_pos (by omega)]
      simp (disch := omega) only [zu_row, zu_dnR, r1]
    · rw [mkA, if_neg (by omega), if_neg (by omega), if_pos (by omega)]
      simp (disch := omega) only [zu_dn, zu_off]
      exact b1
    · rw [mkA, if_neg (by omega), if_neg (by omega), if_pos (by omega)]
      simp (disch := omega) only [zu_dn, zu_off, zu_sm]
      omega
    · rw [mkA, if_neg (by omega), if_neg (by omega), if_pos (by omega)]
      simp (disch := omega) only [zu_dn, zu_off, zu_sm]
      omega
  · intro a1 a2 a3 hz
    refine h _ hz (((zFr.refl.set rfl).set rfl).set rfl) ⟨?_, ?_, ?_, ?_⟩
    · rw [mkA, if_neg (by omega), if_neg (by omega), if_neg (by omega)]
      simp (disch := omega) only [zu_row, zu_dnR, r1]
    · rw [mkA, if_neg (by omega), if_neg (by omega), if_neg (by omega)]
      simp (disch := omega) only [zu_dn, zu_off]
      exact b1
    · rw [mkA, if_neg (by omega), if_neg (by omega), if_neg (by omega)]
      simp (disch := omega) only [zu_dn, zu_off, zu_sm]
      omega
    · rw [mkA, if_neg (by omega), if_neg (by omega), if_neg (by omega)]
      simp (disch := omega) only [zu_dn, zu_off, zu_sm]
      exact b3
  · intro a1 a2 hz
    refine h _ hz (((((zFr.refl.set rfl).set rfl).set rfl).set rfl).set rfl) ⟨?_, ?_, ?_, ?_⟩
    · rw [mkA, if_neg (by omega), if_pos (by omega)]
      simp (disch := omega) only [zu_row, zu_dnR, r1]
    · rw [mkA, if_neg (by omega), if_pos (by omega)]
      simp (disch := omega) only [zu_dn, zu_off, zu_sm]
      omega
    · rw [mkA, if_neg (by omega), if_pos (by omega)]
      simp (disch := omega) only [zu_dn, zu_off, zu_sm]
      omega
    · rw [mkA, if_neg (by omega), if_pos (by omega)]
      simp (disch := omega) only [zu_dn, zu_off, zu_sm]
      exact b3
  · intro a1
    refine h m hB zFr.refl ?_
    rw [mkA, if_pos (by omega)]
    exact ⟨r1, b1, b2, b3⟩
theorem z_makes_91 (hT : zRules T) {c : Nat} {v : Int} {a : zS} (hB : zB m) (hc : c ≤ 7) (hv : 0 ≤ v ∧ v ≤ 99) (hR : RelR 91 m a)
    (h : ∀ m1, zB m1 → zFr (mkW 91) m m1 → RelR 91 m1 (mkA (m 79 0) a c v) → κ none m1) : T (D + 2) 226 (0, [(0, zr 74), (1, zr 91), (2, zi (c : Int)), (3, zi v)], [], m) κ := by
  obtain ⟨r1, b1, b2, b3⟩ := hR
  have e1 : a.1 (c + 12) = m 91 (c + 12) := by rw [r1]
  have e2 : a.1 (c + 20) = m 91 (c + 20) := by rw [r1]
  have e3 : a.1 (c + 28) = m 91 (c + 28) := by rw [r1]
  have e5 : a.1 56 = m 91 56 := by rw [r1]
  have hB5 : 0 ≤ m 91 56 ∧ m 91 56 ≤ 20 := hB 91 56
  have hB9 : 0 ≤ m 79 0 ∧ m 79 0 ≤ 9 := hB 79 0
  have w1 := zSg hB 91 12 20 (-1) 99 rfl (c + 12) (by omega) (by omega)
  have w2 := zSg hB 91 20 28 (-1) 9 rfl (c + 20) (by omega) (by omega)
  refine zb226_0_91 hT hB hc hv ?_ ?_ ?_ ?_ ?_
  · intro a1 a2 a3 a4
    have hs : (zu (zu (zu (zu (zu m 91 (c + 12) v) 91 (c + 20) (m 79 0)) 74 32 ((m 74 32) + 2)) 74 33 ((m 74 33) + ((((m 91 (c + 12)) + (m 91 (c + 20))) - v) - (m 79 0)))) 91 ((36 + (m 91 56)).toNat) ((((m 91 (c + 12)) + (m 91 (c + 20))) - v) - (m 79 0))) 91 56 = m 91 56 := by
      simp (disch := omega) only [zu_off, zu_dn]
    rw [hs]
    refine h _ ?_ ((((((zFr.refl.set rfl).set rfl).set rfl).set rfl).set rfl).set rfl) ⟨?_, ?_, ?_, ?_⟩
    · refine zB_u (zB_u (zB_u (zB_u (zB_u (zB_u hB (zbSg 91 12 20 (-1) 99 rfl _ _ (by omega) (by omega) ⟨by omega, by omega⟩)) (zbSg 91 20 28 (-1) 9 rfl _ _ (by omega) (by omega) ⟨by omega, by omega⟩)) trivial) trivial) (zbSg 91 36 56 0 108 rfl _ _ (by omega) (by omega) ⟨by omega, by omega⟩)) ?_
      show 0 ≤ m 91 56 + 1 ∧ m 91 56 + 1 ≤ 20
      omega
    · rw [mkA, if_neg (by omega), if_neg (by omega), if_pos (by omega), if_neg (by omega)]
      simp (disch := omega) only [zu_row, zu_dnR, r1]
    · rw [mkA, if_neg (by omega), if_neg (by omega), if_pos (by omega)]
      simp (disch := omega) only [zu_dn, zu_off]
      exact b1
    · rw [mkA, if_neg (by omega), if_neg (by omega), if_pos (by omega)]
      simp (disch := omega) only [zu_dn, zu_off, zu_sm]
      omega
    · rw [mkA, if_neg (by omega), if_neg (by omega), if_pos (by omega)]
      simp (disch := omega) only [zu_dn, zu_off, zu_sm]
      omega
  · intro a1 a2 a3 a4 hz
    refine h _ hz ((((zFr.refl.set rfl).set rfl).set rfl).set rfl) ⟨?_, ?_, ?_, ?_⟩
    · rw [mkA, if_neg (by omega), if_neg (by omega), if_pos (by omega), if_pos (by omega)]
      simp (disch := omega) only [zu_row, zu_dnR, r1]
    · rw [mkA, if_neg (by omega), if_neg (by omega), if_pos (by omega)]
      simp (disch := omega) only [zu_dn, zu_off]
      exact b1
    · rw [mkA, if_neg (by omega), if_neg (by omega), if_pos (by omega)]
      simp (disch := omega) only [zu_dn, zu_off, zu_sm]
      omega
    · rw [mkA, if_neg (by omega), if_neg (by omega), if_pos (by omega)]
      simp (disch := omega) only [zu_dn, zu_off, zu_sm]
      omega
  · intro a1 a2 a3 hz
    refine h _ hz (((zFr.refl.set rfl).set rfl).set rfl) ⟨?_, ?_, ?_, ?_⟩
    · rw [mkA, if_neg (by omega), if_neg (by omega), if_neg (by omega)]
      simp (disch := omega) only [zu_row, zu_dnR, r1]
    · rw [mkA, if_neg (by omega), if_neg (by omega), if_neg (by omega)]
      simp (disch := omega) only [zu_dn, zu_off]
      exact b1
    · rw [mkA, if_neg (by omega), if_neg (by omega), if_neg (by omega)]
      simp (disch := omega) only [zu_dn, zu_off, zu_sm]
      omega
    · rw [mkA, if_neg (by omega), if_neg (by omega), if_neg (by omega)]
      simp (disch := omega) only [zu_dn, zu_off, zu_sm]
      exact b3
  · intro a1 a2 hz
    refine h _ hz (((((zFr.refl.set rfl).set rfl).set rfl).set rfl).set rfl) ⟨?_, ?_, ?_, ?_⟩
    · rw [mkA, if_neg (by omega), if_pos (by omega)]
      simp (disch := omega) only [zu_row, zu_dnR, r1]
    · rw [mkA, if_neg (by omega), if_pos (by omega)]
      simp (disch := omega) only [zu_dn, zu_off, zu_sm]
      omega
    · rw [mkA, if_neg (by omega), if_pos (by omega)]
      simp (disch := omega) only [zu_dn, zu_off, zu_sm]
      omega
    · rw [mkA, if_neg (by omega), if_pos (by omega)]
      simp (disch := omega) only [zu_dn, zu_off, zu_sm]
      exact b3
  · intro a1
    refine h m hB zFr.refl ?_
    rw [mkA, if_pos (by omega)]
    exact ⟨r1, b1, b2, b3⟩
end ZCore2
