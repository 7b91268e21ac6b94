/-! isServed. -/
theorem y_idA : ∀ k, k < 90 → y_n90[k]? = some (s_nm k) := by decide +kernel
theorem y_idS {n k : Nat} (hk : k < n) (hn : n ≤ 90) : (y_id n)[k]? = some (s_nm k) := by
  unfold y_id
  rw [List.getElem?_take, if_pos hk]
  exact y_idA k (by omega)
theorem y_idN {n : Nat} (hn : n ≤ 90) : (y_id n).length = n := by
  have h : y_n90.length = 90 := rfl
  unfold y_id
  rw [List.length_take, h]
  omega
section Val
variable {rv rw : List Int}
theorem y_get {j : Nat} (h : j < rv.length) : rv[j]? = some (y_gv rv j) := by
  unfold y_gv
  rw [List.getElem?_eq_getElem h]
  rfl
theorem y_gvE {j : Nat} {w : Int} (h : rv[j]? = some w) : y_gv rv j = w := by
  unfold y_gv
  rw [h]
  rfl
theorem y_gvA {j : Nat} (x : List Int) (h : j < rv.length) : y_gv (rv ++ x) j = y_gv rv j := by
  unfold y_gv
  rw [List.getElem?_append_left h]
def y_sum (rv : List Int) : sT → Int
  | [] => 0
  | q :: r => q.2 * y_gv rv q.1 + y_sum rv r
theorem y_ev : ∀ {t : sT}, (∀ q ∈ t, q.1 < rv.length) → s_ev rv t = some (y_sum rv t)
  | [], _ => rfl
  | (k, c) :: r, h => s_ev_cons.mpr ⟨_, _, y_get (h (k, c) List.mem_cons_self), y_ev (fun q hq => h q (List.mem_cons_of_mem _ hq)), rfl⟩
theorem y_val {t : sT} {z : Int} (h : ∀ q ∈ t, q.1 < rv.length) : s_val rv (t, z) = some (y_sum rv t + z) := s_val_iff.mpr ⟨_, y_ev h, rfl⟩
theorem y_b1 {N a : Nat} {ca : Int} (h : a < N) : ∀ q ∈ [(a, ca)], q.1 < N := fun q hq => by
  rcases List.mem_cons.mp hq with rfl | hq
  · exact h
  · exact nomatch hq
theorem y_b2 {N a b : Nat} {ca cb : Int} (h : a < N) (h2 : b < N) : ∀ q ∈ [(a, ca), (b, cb)], q.1 < N := fun q hq => by
  rcases List.mem_cons.mp hq with rfl | hq
  · exact h
  · exact y_b1 h2 q hq
theorem y_b3 {N a b c : Nat} {ca cb cc : Int} (h : a < N) (h2 : b < N) (h3 : c < N) : ∀ q ∈ [(a, ca), (b, cb), (c, cc)], q.1 < N := fun q hq => by
  rcases List.mem_cons.mp hq with rfl | hq
  · exact h
  · exact y_b2 h2 h3 q hq
variable {ge : List (sF × Int)} {ne : List sF} {a b c : Nat} {ca cb cc z d : Int}
theorem y_g1 (h : q_fct rv ge ne) (hm : (([(a, ca)], z), d) ∈ ge) (ha : a < rv.length) : d ≤ ca * y_gv rv a + z := by
  have := h.1 _ hm _ (y_val (y_b1 ha))
  have e : y_sum rv [(a, ca)] = ca * y_gv rv a + 0 := rfl
  rw [e] at this
  have this : d ≤ ca * y_gv rv a + 0 + z := this
  omega
theorem y_g2 (h : q_fct rv ge ne) (hm : (([(a, ca), (b, cb)], z), d) ∈ ge) (ha : a < rv.length) (hb : b < rv.length) : d ≤ ca * y_gv rv a + cb * y_gv rv b + z := by
  have := h.1 _ hm _ (y_val (y_b2 ha hb))
  have e : y_sum rv [(a, ca), (b, cb)] = ca * y_gv rv a + (cb * y_gv rv b + 0) := rfl
  rw [e] at this
  have this : d ≤ ca * y_gv rv a + (cb * y_gv rv b + 0) + z := this
  omega
theorem y_g3 (h : q_fct rv ge ne) (hm : (([(a, ca), (b, cb), (c, cc)], z), d) ∈ ge) (ha : a < rv.length) (hb : b < rv.length) (hc : c < rv.length) : d ≤ ca * y_gv rv a + cb * y_gv rv b + cc * y_gv rv c + z := by
  have := h.1 _ hm _ (y_val (y_b3 ha hb hc))
  have e : y_sum rv [(a, ca), (b, cb), (c, cc)] = ca * y_gv rv a + (cb * y_gv rv b + (cc * y_gv rv c + 0)) := rfl
  rw [e] at this
  have this : d ≤ ca * y_gv rv a + (cb * y_gv rv b + (cc * y_gv rv c + 0)) + z := this
  omega
theorem y_n2 (h : q_fct rv ge ne) (hm : ([(a, ca), (b, cb)], z) ∈ ne) (ha : a < rv.length) (hb : b < rv.length) : ca * y_gv rv a + cb * y_gv rv b + z ≠ 0 := by
  have := h.2 _ hm _ (y_val (y_b2 ha hb))
  have e : y_sum rv [(a, ca), (b, cb)] = ca * y_gv rv a + (cb * y_gv rv b + 0) := rfl
  rw [e] at this
  intro h
  exact this (by omega)
/-- a new name's value -/
theorem y_v0 {bs : List sF} {k : Nat} (h : y_new rv bs rw) (hk : bs[k]? = some (s_num z)) : y_gv rw k = z := y_gvE (h.2 k _ _ hk (s_numS z))
theorem y_v1 {bs : List sF} {k : Nat} (h : y_new rv bs rw) (hk : bs[k]? = some ([(a, ca)], z)) (ha : a < rv.length) : y_gv rw k = ca * y_gv rv a + z := by
  have := y_gvE (h.2 k _ _ hk (y_val (y_b1 ha)))
  rw [this]
  show ca * y_gv rv a + 0 + z = _
  omega
theorem y_v2 {bs : List sF} {k : Nat} (h : y_new rv bs rw) (hk : bs[k]? = some ([(a, ca), (b, cb)], z)) (ha : a < rv.length) (hb : b < rv.length) : y_gv rw k = ca * y_gv rv a + cb * y_gv rv b + z := by
  have := y_gvE (h.2 k _ _ hk (y_val (y_b2 ha hb)))
  rw [this]
  show ca * y_gv rv a + (cb * y_gv rv b + 0) + z = _
  omega
end Val
def y_Tf (r : List Int) (i : Nat) : Int := y_gv r (58 + i)
def y_Lf (r : List Int) (k : Nat) : Int := y_gv r (32 + k)
def y_P268 (r : List Int) : Prop := (y_srv (y_Tf r) (y_gv r 31) (y_gv r 85) (y_gv r 84) ∧ y_gv r 86 = 1) ∨ (¬y_srv (y_Tf r) (y_gv r 31) (y_gv r 85) (y_gv r 84) ∧ y_gv r 86 = 0)
theorem y_nil {rv0 y : List Int} (h : (rv0 ++ y).length = rv0.length) : y = [] := by
  rw [List.length_append] at h
  exact List.length_eq_zero_iff.mp (by omega)
section Served
variable {l : Launch} {dC : Nat → ClassId} {dI : Nat → Nat → Nat} {dA : FieldType → ClassId} {Hb : Heap} {ad : Nat → Nat}
theorem y_xok (K : Nat) (dp : sF) : q_XOK l dC dI dA Hb ad K dp y_X := q_xok 4 K dp (fun D _ c C hC => nomatch hC)
set_option maxHeartbeats 4000000 in
theorem y_m268 {K : Nat} : q_KOKp l dC dI dA Hb ad y_P268 268 y_k268 K := by
  intro rv0 H0 vs hP hdp hL hE hG
  have hX : q_XOKp l dC dI dA Hb ad K (s_num (vP 5)) (fun _ => True) y_X := q_xokO (y_xok K _)
  have hlen : rv0.length = 87 := hE.1
  refine q_metW (k := 268) (by decide) (by decide +kernel) (by decide +kernel) hL hE hG (fun p e s m below meth c ls Cx hret hlocks F => ?_)
  have hdp2 : s_val (rv0 ++ []) (s_num (vP 5)) = some (K : Int) := s_val_mono _ hdp
  have fin : ∀ (z : Int) (v : Option Value) (x : List Int) (H2 : Heap), y_gv rv0 86 = z → q_ret (rv0 ++ x) ad (y_r268 z).1 v → q_E (rv0 ++ x) (y_r268 z).2.1 → q_G dC dI dA (rv0 ++ x) ad Hb H0 (y_r268 z).2.1 (y_r268 z).2.2 H2 → ∀ t : State, t.heap = H2 → q_Qc dC dI dA rv0 ad Hb H0 (y_k268.2.2.2.2.map s_nO) vs.toArray s (.returned v) t := by
    intro z v x H2 hz w1 w2 w3 t ht
    refine ⟨v, rfl, s_nO (some (.inl (s_nm 86)), y_E268, y_hB), List.mem_singleton.mpr rfl, x, rfl, ?_, w2, by rw [ht]; exact w3⟩
    obtain ⟨w, e1, y0, e2, e3⟩ := w1
    refine ⟨w, e1, y0, e2, ?_⟩
    rw [s_numS] at e3
    rw [← e3]
    refine s_nmS ?_
    rw [List.getElem?_append_left (by omega), y_get (by omega), hz]
  have hd : ∀ (n i : Nat), i + n = 26 → (∀ j, j < i → ¬(y_gv rv0 84 ≤ y_Tf rv0 j ∧ y_Tf rv0 j ≤ y_gv rv0 84 + y_gv rv0 31)) → ∀ (ls1 : Array Slot) (vs1 : List Value) (H1 : Heap) (locs1 : List Loc), q_Fr dC dI dA (rv0 ++ []) ad Hb H0 (mL 268) (y_T268 i) ls1 vs1 H1 locs1 →
      W p l e (q_rm K 0 0) s m vs.toArray below meth c H1 locs1 0 0 (MQ below (q_Qc dC dI dA rv0 ad Hb H0 (y_k268.2.2.2.2.map s_nO)) vs.toArray s 0 0 (fun q => Hb.size ≤ q)) (F0 m (y_T268 i).1 ls1 vs1) := by
    intro n
    induction n using Nat.strongRecOn with
    | ind n ih =>
      intro i hi hj ls1 vs1 H1 locs1 F1
      have hc := y_c268 i (by omega)
      have many26 : y_gv rv0 85 ≤ 26 := by
        obtain ⟨v, v1, v2, v3⟩ := hE.2.1 85 (vP 0, vP 26) rfl
        rw [y_gvE v1]
        exact v3
      have on : ∀ (y' : List Int) (ls2 : Array Slot) (vs2 : List Value) (H2 : Heap) (locs2 : List Loc), i < 26 → ¬(y_gv rv0 84 ≤ y_Tf rv0 i ∧ y_Tf rv0 i ≤ y_gv rv0 84 + y_gv rv0 31) → q_Fr dC dI dA (rv0 ++ y') ad Hb H0 (mL 268) (y_T268 (i + 1)) ls2 vs2 H2 locs2 → W p l e (q_rm K 0 0) s m vs.toArray below meth c H2 locs2 0 0 (MQ below (q_Qc dC dI dA rv0 ad Hb H0 (y_k268.2.2.2.2.map s_nO)) vs.toArray s 0 0 (fun q => Hb.size ≤ q)) (F0 m (y_T268 (i + 1)).1 ls2 vs2) := by
        intro y' ls2 vs2 H2 locs2 hi2 hno F2
        have ey : y' = [] := y_nil (by rw [hlen]; exact F2.2.2.1.1)
        subst ey
        refine ih (n - 1) (by omega) (i + 1) (by omega) (fun j hj2 => ?_) ls2 vs2 H2 locs2 F2
        by_cases e : j = i
        · subst e
          exact hno
        · exact hj j (by omega)
      refine q_segW Cx hret hlocks (fun _ _ _ => trivial) hX hlen hdp2 trivial hc F1 (fun T b ge ne hm hf y' ls2 vs2 H2 locs2 hnew F2 => ?_) (fun nn b ge ne hm hf v x H2 hnew w1 w2 w3 => ?_)
      · rw [List.append_nil] at hf hnew
        unfold y_a268 at hm
        rcases List.mem_cons.mp hm with hm | hm
        · cases hm
        · cases hb : Nat.blt i 26 with
          | false => rw [hb] at hm; exact nomatch hm
          | true =>
            have hi2 : i < 26 := Nat.le_of_ble_eq_true hb
            rw [hb] at hm
            simp only [cond_true] at hm
            rcases List.mem_cons.mp hm with hm | hm
            · cases hm
            · rcases List.mem_cons.mp hm with hm | hm
              · cases hm
                have g := y_g2 hf (List.Mem.head _) (by omega) (by omega)
                refine on y' ls2 vs2 H2 locs2 hi2 (fun h => ?_) F2
                have h1 : y_gv rv0 84 ≤ y_gv rv0 (58 + i) := h.1
                have g : (1 : Int) ≤ -1 * y_gv rv0 (58 + i) + 1 * y_gv rv0 84 + 0 := g
                omega
              · rcases List.mem_cons.mp hm with hm | hm
                · cases hm
                  have g := y_g3 hf (List.Mem.head _) (by omega) (by omega) (by omega)
                  refine on y' ls2 vs2 H2 locs2 hi2 (fun h => ?_) F2
                  have h1 : y_gv rv0 (58 + i) ≤ y_gv rv0 84 + y_gv rv0 31 := h.2
                  have g : (1 : Int) ≤ -1 * y_gv rv0 31 + 1 * y_gv rv0 (58 + i) + -1 * y_gv rv0 84 + 0 := g
                  omega
                · exact nomatch hm
      · rw [List.append_nil] at hf hnew
        unfold y_a268 at hm
        rcases List.mem_cons.mp hm with hm | hm
        · cases hm
          have g := y_g1 hf (List.Mem.head _) (by omega)
          have g : -((i : Nat) : Int) ≤ -1 * y_gv rv0 85 + 0 := g
          refine fin (vP 0) v x H2 ?_ w1 w2 w3
          rcases hP with ⟨⟨j, j1, j2⟩, -⟩ | ⟨-, hz⟩
          · exact absurd j2 (hj j (by omega))
          · exact hz
        · cases hb : Nat.blt i 26 with
          | false => rw [hb] at hm; exact nomatch hm
          | true =>
            have hi2 : i < 26 := Nat.le_of_ble_eq_true hb
            rw [hb] at hm
            simp only [cond_true] at hm
            rcases List.mem_cons.mp hm with hm | hm
            · cases hm
              have g1 := y_g2 hf (List.Mem.head _) (by omega) (by omega)
              have g2 := y_g3 hf (.tail _ (List.Mem.head _)) (by omega) (by omega) (by omega)
              have g3 := y_g1 hf (.tail _ (.tail _ (List.Mem.head _))) (by omega)
              have g1 : (0 : Int) ≤ 1 * y_gv rv0 (58 + i) + -1 * y_gv rv0 84 + 0 := g1
              have g2 : (0 : Int) ≤ 1 * y_gv rv0 31 + -1 * y_gv rv0 (58 + i) + 1 * y_gv rv0 84 + 0 := g2
              have g3 : ((i + 1 : Nat) : Int) ≤ 1 * y_gv rv0 85 + 0 := g3
              refine fin (vP 1) v x H2 ?_ w1 w2 w3
              rcases hP with ⟨-, hz⟩ | ⟨hno, -⟩
              · exact hz
              · exact absurd ⟨i, by omega, show y_gv rv0 84 ≤ y_gv rv0 (58 + i) by omega, show y_gv rv0 (58 + i) ≤ y_gv rv0 84 + y_gv rv0 31 by omega⟩ hno
            · rcases List.mem_cons.mp hm with hm | hm
              · cases hm
              · rcases List.mem_cons.mp hm with hm | hm
                · cases hm
                · exact nomatch hm
  have F' : q_Fr dC dI dA (rv0 ++ []) ad Hb H0 (mL 268) (0, s_args 0 y_k268.2.1, [], y_E268, y_hB) ls [] H0 [] := by rw [List.append_nil]; exact F
  refine q_segW Cx hret hlocks (fun _ _ _ => trivial) hX hlen hdp2 trivial y_o268 F' (fun T b ge ne hm hf y' ls2 vs2 H2 locs2 hnew F2 => ?_) (fun nn b ge ne hm hf v x H2 hnew w1 w2 w3 => ?_)
  · rcases List.mem_cons.mp hm with hm | hm
    · cases hm
      have ey : y' = [] := y_nil (by rw [hlen]; exact F2.2.2.1.1)
      subst ey
      exact hd 26 0 rfl (fun j hj => by omega) ls2 vs2 H2 locs2 F2
    · exact nomatch hm
  · rcases List.mem_cons.mp hm with hm | hm
    · cases hm
    · exact nomatch hm
end Served
