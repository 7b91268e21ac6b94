/-! wanting. -/
def y_P269 (r : List Int) : Prop := y_gv r 85 = y_want (y_Lf r) (y_Tf r) (y_gv r 31) (y_gv r 25) (y_gv r 84)
section Same
variable {rv rw x : List Int}
theorem y_newT {b : List sF} (h : q_Th rv b rw) : y_new rv b rw := y_newS (x := []) (by rw [List.append_nil]; exact h)
theorem y_idL {n k : Nat} {t : List sF} (hk : k < n) (hn : n ≤ 90) : (y_id n ++ t)[k]? = some (s_nm k) := by
  rw [List.getElem?_append_left (by rw [y_idN hn]; exact hk)]
  exact y_idS hk hn
theorem y_idR {n j : Nat} {t : List sF} (hn : n ≤ 90) : (y_id n ++ t)[n + j]? = t[j]? := by
  rw [List.getElem?_append_right (by rw [y_idN hn]; omega), y_idN hn, Nat.add_sub_cancel_left]
theorem y_vn {b : List sF} {k j : Nat} (h : y_new rv b rw) (hk : b[k]? = some (s_nm j)) (hj : j < rv.length) : y_gv rw k = y_gv rv j := by
  have := y_v1 (a := j) (ca := 1) (z := 0) h hk hj
  omega
theorem y_same {n : Nat} (h : y_new rv (y_id n) rw) (hl : rv.length = n) (hn : n ≤ 90) : rw = rv := by
  apply List.ext_getElem?
  intro k
  by_cases hk : k < n
  · have := y_vn h (y_idS hk hn) (by omega)
    rw [y_get (by rw [← h.1, y_idN hn]; exact hk), y_get (by omega), this]
  · rw [List.getElem?_eq_none (by rw [← h.1, y_idN hn]; omega), List.getElem?_eq_none (by omega)]
end Same
section Ghost
variable {dC : Nat → ClassId} {dI : Nat → Nat → Nat} {dA : FieldType → ClassId} {ad : Nat → Nat} {Hb H0 H : Heap} {rv : List Int}
theorem y_ghost {f : sG} {i : pI} {z : Int} {nL : Nat} {ls : Array Slot} {vs : List Value} {locs : List Loc} (F : q_Fr dC dI dA rv ad Hb H0 nL f ls vs H locs) (h1 : i.1 ≤ z) (h2 : z ≤ i.2) : q_Fr dC dI dA (rv ++ [z]) ad Hb H0 nL (f.1, f.2.1, f.2.2.1, s_ex f.2.2.2.1 [i], f.2.2.2.2) ls vs H locs := by
  obtain ⟨pc, lo, st, E, h⟩ := f
  obtain ⟨f1, f2, f3, f4, f5⟩ := F
  refine ⟨f1.mono _, f2.mono _, s_exS f3 rfl (fun k j hk => ?_), (f4.mono _).env rfl, f5⟩
  cases k with
  | zero => cases hk; exact ⟨z, rfl, h1, h2⟩
  | succ k => cases hk
end Ghost
section Wanting
variable {l : Launch} {dC : Nat → ClassId} {dI : Nat → Nat → Nat} {dA : FieldType → ClassId} {Hb : Heap} {ad : Nat → Nat}
/-- the premise of isServed, where wanting calls it -/
theorem y_call268 {rv RV rw : List Int} (hp : ∃ x, rv = RV ++ x) (hl : RV.length = 90) (hq : y_gv RV 84 ≤ 26) (h : (y_srv (y_Tf RV) (y_gv RV 31) (y_gv RV 84) (y_gv RV 88) ∧ y_gv RV 89 = 1) ∨ (¬y_srv (y_Tf RV) (y_gv RV 31) (y_gv RV 84) (y_gv RV 88) ∧ y_gv RV 89 = 0)) (ht : q_Th rv y_t268 rw) : y_P268 rw := by
  obtain ⟨x, rfl⟩ := hp
  have hn := y_newS ht
  have e0 : ∀ k, k < 84 → y_gv rw k = y_gv RV k := fun k hk => y_vn hn (y_idL hk (by omega)) (by omega)
  have e1 : y_gv rw 84 = y_gv RV 88 := y_vn (j := 88) hn (y_idR (n := 84) (j := 0) (by omega)) (by omega)
  have e2 : y_gv rw 85 = y_gv RV 84 := y_vn (j := 84) hn (y_idR (n := 84) (j := 1) (by omega)) (by omega)
  have e3 : y_gv rw 86 = y_gv RV 89 := y_vn (j := 89) hn (y_idR (n := 84) (j := 2) (by omega)) (by omega)
  have es : y_srv (y_Tf rw) (y_gv rw 31) (y_gv rw 85) (y_gv rw 84) ↔ y_srv (y_Tf RV) (y_gv RV 31) (y_gv RV 84) (y_gv RV 88) := by
    rw [e0 31 (by omega), e1, e2]
    exact y_srvE (fun j hj => e0 (58 + j) (by omega)) _
  unfold y_P268
  rw [es, e3]
  exact h
set_option maxHeartbeats 8000000 in
theorem y_m269 {K : Nat} : q_KOKp l dC dI dA Hb ad y_P269 269 y_k269 K := by
  intro rv0 H0 vs hP hdp hL hE hG
  have hlen : rv0.length = 86 := hE.1
  refine q_metW (k := 269) (by decide) (by decide +kernel) (by decide +kernel) hL hE hG (fun p e s m below meth c ls Cx hret hlocks F => ?_)
  have hdp2 : ∀ y, s_val (rv0 ++ y) (s_num (vP 10)) = some (K : Int) := fun y => s_val_mono _ hdp
  have q26 : y_gv rv0 84 ≤ 26 := by
    obtain ⟨v, v1, v2, v3⟩ := hE.2.1 84 (vP 0, vP 26) rfl
    rw [y_gvE v1]
    exact v3
  have n26 : y_gv rv0 25 ≤ 26 := by
    obtain ⟨v, v1, v2, v3⟩ := hE.2.1 25 (vP 0, vP 26) rfl
    rw [y_gvE v1]
    exact v3
  generalize hA : y_A (y_Lf rv0) (y_Tf rv0) (y_gv rv0 31) (y_gv rv0 25) (y_gv rv0 84) = A
  have hw : (y_w A (y_gv rv0 31) 100).1 = y_gv rv0 85 := by rw [← hA]; exact hP.symm
  have hd : ∀ (n v : Nat), v + n = 100 → ∀ (y : List Int) (ls1 : Array Slot) (vs1 : List Value) (H1 : Heap) (locs1 : List Loc), q_Fr dC dI dA (rv0 ++ y) ad Hb H0 (mL 269) y_T269o ls1 vs1 H1 locs1 → y_gv (rv0 ++ y) 86 = (y_w A (y_gv rv0 31) v).1 → y_gv (rv0 ++ y) 87 = (y_w A (y_gv rv0 31) v).2 → y_gv (rv0 ++ y) 88 = (v : Int) →
      W p l e (q_rm K 0 0) s m vs.toArray below meth c H1 locs1 0 0 (MQ below (q_Qc dC dI dA rv0 ad Hb H0 (y_k269.2.2.2.2.map s_nO)) vs.toArray s 0 0 (fun q => Hb.size ≤ q)) (F0 m y_T269o.1 ls1 vs1) := by
    intro n
    induction n using Nat.strongRecOn with
    | ind n ih =>
      intro v hv y ls1 vs1 H1 locs1 F1 h86 h87 h88
      have ylen : y.length = 3 := by
        have := F1.2.2.1.1
        rw [List.length_append, hlen] at this
        have this : 86 + y.length = 89 := this
        omega
      -- is it served
      obtain ⟨sv, sv1, sv2⟩ : ∃ z : Int, (0 ≤ z ∧ z ≤ 1) ∧ ((y_srv (y_Tf rv0) (y_gv rv0 31) (y_gv rv0 84) (v : Int) ∧ z = 1) ∨ (¬y_srv (y_Tf rv0) (y_gv rv0 31) (y_gv rv0 84) (v : Int) ∧ z = 0)) := by
        by_cases h : y_srv (y_Tf rv0) (y_gv rv0 31) (y_gv rv0 84) (v : Int)
        · exact ⟨1, by omega, Or.inl ⟨h, rfl⟩⟩
        · exact ⟨0, by omega, Or.inr ⟨h, rfl⟩⟩
      have F2 := y_ghost (i := (vP 0, vP 1)) (z := sv) F1 sv1.1 sv1.2
      rw [List.append_assoc] at F2
      generalize hRV : rv0 ++ (y ++ [sv]) = RV at F2
      have rlen : RV.length = 90 := by rw [← hRV, List.length_append, List.length_append, hlen, ylen]; rfl
      have gb : ∀ k, k < 86 → y_gv RV k = y_gv rv0 k := fun k hk => by rw [← hRV]; exact y_gvA _ (by omega)
      have gy : ∀ k, k < 89 → y_gv RV k = y_gv (rv0 ++ y) k := fun k hk => by rw [← hRV, ← List.append_assoc]; exact y_gvA _ (by rw [List.length_append]; omega)
      have g89 : y_gv RV 89 = sv := by
        rw [← hRV, ← List.append_assoc]
        refine y_gvE ?_
        rw [List.getElem?_append_right (by rw [List.length_append]; omega), List.length_append, hlen, ylen]
        rfl
      have g88 : y_gv RV 88 = (v : Int) := (gy 88 (by omega)).trans h88
      have g87 := (gy 87 (by omega)).trans h87
      have g86 := (gy 86 (by omega)).trans h86
      have hX : q_XOKp l dC dI dA Hb ad K (s_num (vP 10)) (fun rv => ∃ x, rv = RV ++ x) y_X9 := q_xokP (P := y_P268) (y_xok K _) (fun D _ => y_m268) (fun rv rw hp ht => by
        refine y_call268 hp rlen (by rw [gb 84 (by omega)]; exact q26) ?_ ht
        have es : y_srv (y_Tf RV) (y_gv RV 31) (y_gv RV 84) (y_gv RV 88) ↔ y_srv (y_Tf rv0) (y_gv rv0 31) (y_gv rv0 84) (v : Int) := by
          rw [gb 31 (by omega), gb 84 (by omega), g88]
          exact y_srvE (fun j hj => gb (58 + j) (by omega)) _
        rw [es, g89]
        exact sv2)
      have hPP : ∀ (rv x : List Int), (∃ z, rv = RV ++ z) → ∃ z, rv ++ x = RV ++ z := fun rv x ⟨z, e⟩ => ⟨z ++ x, by rw [e, List.append_assoc]⟩
      have hPV : ∃ z, rv0 ++ (y ++ [sv]) = RV ++ z := ⟨[], by rw [hRV, List.append_nil]⟩
      -- the next v
      have out : v < 100 → ∀ (y' : List Int) (ls2 : Array Slot) (vs2 : List Value) (H2 : Heap) (locs2 : List Loc) (a b : Int), (a, b) = y_w A (y_gv rv0 31) (v + 1) → y_gv (rv0 ++ y') 86 = a → y_gv (rv0 ++ y') 87 = b → y_gv (rv0 ++ y') 88 = (v : Int) + 1 → q_Fr dC dI dA (rv0 ++ y') ad Hb H0 (mL 269) y_T269o ls2 vs2 H2 locs2 → W p l e (q_rm K 0 0) s m vs.toArray below meth c H2 locs2 0 0 (MQ below (q_Qc dC dI dA rv0 ad Hb H0 (y_k269.2.2.2.2.map s_nO)) vs.toArray s 0 0 (fun q => Hb.size ≤ q)) (F0 m y_T269o.1 ls2 vs2) := by
        intro hv2 y' ls2 vs2 H2 locs2 a b hab ha hb hc F3
        exact ih (n - 1) (by omega) (v + 1) (by omega) y' ls2 vs2 H2 locs2 F3 (by rw [← hab]; exact ha) (by rw [← hab]; exact hb) (by rw [hc]; omega)
      -- the laws, one by one
      have inn : v < 100 → ∀ (n2 k i : Nat), k + n2 = 26 → ((i = 1 ∧ ∃ j : Nat, (j : Int) < y_gv rv0 25 ∧ y_Lf rv0 j = (v : Int)) ∨ (i = 0 ∧ ∀ j : Nat, j < k → (j : Int) < y_gv rv0 25 → y_Lf rv0 j ≠ (v : Int))) → ∀ (ls2 : Array Slot) (vs2 : List Value) (H2 : Heap) (locs2 : List Loc), q_Fr dC dI dA (rv0 ++ (y ++ [sv])) ad Hb H0 (mL 269) (y_T269i k i) ls2 vs2 H2 locs2 → W p l e (q_rm K 0 0) s m vs.toArray below meth c H2 locs2 0 0 (MQ below (q_Qc dC dI dA rv0 ad Hb H0 (y_k269.2.2.2.2.map s_nO)) vs.toArray s 0 0 (fun q => Hb.size ≤ q)) (F0 m (y_T269i k i).1 ls2 vs2) := by
        intro hv2 n2
        induction n2 using Nat.strongRecOn with
        | ind n2 ih2 =>
          intro k i hk hi ls2 vs2 H2 locs2 F3
          have hc0 := y_c269 k (by omega)
          have hc : s_seg y_X9 (s_num (vP 10)) 269 (y_at [7, 20]) 90 86 (y_T269i k i) (y_a269 k i) = true := by
            rcases hi with ⟨rfl, -⟩ | ⟨rfl, -⟩
            · exact hc0.2
            · exact hc0.1
          refine q_segW Cx hret hlocks hPP hX hlen (hdp2 _) hPV hc F3 (fun T b ge ne hm hf y' ls3 vs3 H3 locs3 hnew F4 => ?_) (fun nn b ge ne hm hf v x H2 hnew w1 w2 w3 => ?_)
          · rw [hRV] at hf hnew
            have same : ∀ {T : sG}, y_new RV (y_id 90) (rv0 ++ y') → q_Fr dC dI dA (rv0 ++ y') ad Hb H0 (mL 269) T ls3 vs3 H3 locs3 → q_Fr dC dI dA (rv0 ++ (y ++ [sv])) ad Hb H0 (mL 269) T ls3 vs3 H3 locs3 := fun hn F => by
              rw [hRV, ← y_same hn rlen (by omega)]
              exact F
            unfold y_a269 at hm
            rcases List.mem_append.mp hm with hm | hm
            · cases hb : Nat.blt k 26 with
              | false => rw [hb] at hm; exact nomatch hm
              | true =>
                have hk2 : k < 26 := Nat.le_of_ble_eq_true hb
                rw [hb] at hm
                simp only [cond_true] at hm
                rcases List.mem_cons.mp hm with hm | hm
                · cases hm
                  have g1 := y_g1 hf (List.Mem.head _) (by omega)
                  have g2 := y_g2 hf (.tail _ (List.Mem.head _)) (by omega) (by omega)
                  have g3 := y_g2 hf (.tail _ (.tail _ (List.Mem.head _))) (by omega) (by omega)
                  have g1 : ((k + 1 : Nat) : Int) ≤ 1 * y_gv RV 25 + 0 := g1
                  have g2 : (0 : Int) ≤ 1 * y_gv RV (32 + k) + -1 * y_gv RV 88 + 0 := g2
                  have g3 : (0 : Int) ≤ -1 * y_gv RV (32 + k) + 1 * y_gv RV 88 + 0 := g3
                  rw [gb 25 (by omega)] at g1
                  rw [gb (32 + k) (by omega), g88] at g2 g3
                  exact ih2 (n2 - 1) (by omega) (k + 1) 1 (by omega) (Or.inl ⟨rfl, k, by omega, show y_gv rv0 (32 + k) = (v : Int) by omega⟩) ls3 vs3 H3 locs3 (same hnew F4)
                · rcases List.mem_cons.mp hm with hm | hm
                  · cases hm
                    have g2 := y_n2 hf (List.Mem.head _) (by omega) (by omega)
                    have g2 : 1 * y_gv RV (32 + k) + -1 * y_gv RV 88 + 0 ≠ 0 := g2
                    rw [gb (32 + k) (by omega), g88] at g2
                    refine ih2 (n2 - 1) (by omega) (k + 1) i (by omega) ?_ ls3 vs3 H3 locs3 (same hnew F4)
                    rcases hi with ⟨e, h⟩ | ⟨e, h⟩
                    · exact Or.inl ⟨e, h⟩
                    · refine Or.inr ⟨e, fun j hj hjn => ?_⟩
                      by_cases ej : j = k
                      · subst ej
                        intro h
                        have h : y_gv rv0 (32 + j) = (v : Int) := h
                        omega
                      · exact h j (by omega) hjn
                  · exact nomatch hm
            · have nA : ∀ (a b : sF), ge.head? = some (([y_m 25], vP 0), -(vP k)) → y_gv rv0 25 ≤ (k : Int) := fun a b he => by
                cases ge with
                | nil => cases he
                | cons g0 ge =>
                  cases he
                  have g1 := y_g1 hf (List.Mem.head _) (by omega)
                  have g1 : -((k : Nat) : Int) ≤ -1 * y_gv RV 25 + 0 := g1
                  rw [gb 25 (by omega)] at g1
                  omega
              -- it stays as it was
              have stay : ¬(A (v : Int) ∧ ¬((v : Int) ≤ (y_w A (y_gv rv0 31) v).2 ∧ (y_w A (y_gv rv0 31) v).2 ≤ (v : Int) + y_gv rv0 31)) → b = y_n269 (s_nm 86) (s_nm 87) → T = y_T269o → W p l e (q_rm K 0 0) s m vs.toArray below meth c H3 locs3 0 0 (MQ below (q_Qc dC dI dA rv0 ad Hb H0 (y_k269.2.2.2.2.map s_nO)) vs.toArray s 0 0 (fun q => Hb.size ≤ q)) (F0 m T.1 ls3 vs3) := by
                intro hno eb eT
                subst eb
                subst eT
                refine out hv2 y' ls3 vs3 H3 locs3 (y_w A (y_gv rv0 31) (v + 1)).1 (y_w A (y_gv rv0 31) (v + 1)).2 rfl ?_ ?_ ?_ F4
                · rw [y_vn (j := 86) hnew (y_idR (n := 86) (j := 0) (by omega)) (by omega), g86]
                  rcases y_wS A (y_gv rv0 31) v with ⟨h, -⟩ | ⟨-, h⟩
                  · exact absurd h hno
                  · rw [h]
                · rw [y_vn (j := 87) hnew (y_idR (n := 86) (j := 1) (by omega)) (by omega), g87]
                  rcases y_wS A (y_gv rv0 31) v with ⟨h, -⟩ | ⟨-, h⟩
                  · exact absurd h hno
                  · rw [h]
                · have := y_v1 (a := 88) (ca := 1) (z := vP 1) hnew (y_idR (n := 86) (j := 2) (by omega)) (by omega)
                  rw [g88] at this
                  have this : y_gv (rv0 ++ y') 88 = 1 * (v : Int) + 1 := this
                  omega
              have more : A (v : Int) ∧ ¬((v : Int) ≤ (y_w A (y_gv rv0 31) v).2 ∧ (y_w A (y_gv rv0 31) v).2 ≤ (v : Int) + y_gv rv0 31) → b = y_n269 ([y_p 86], vP 1) ([y_p 31, y_p 88], vP 0) → T = y_T269o → W p l e (q_rm K 0 0) s m vs.toArray below meth c H3 locs3 0 0 (MQ below (q_Qc dC dI dA rv0 ad Hb H0 (y_k269.2.2.2.2.map s_nO)) vs.toArray s 0 0 (fun q => Hb.size ≤ q)) (F0 m T.1 ls3 vs3) := by
                intro hyes eb eT
                subst eb
                subst eT
                refine out hv2 y' ls3 vs3 H3 locs3 (y_w A (y_gv rv0 31) (v + 1)).1 (y_w A (y_gv rv0 31) (v + 1)).2 rfl ?_ ?_ ?_ F4
                · have := y_v1 (a := 86) (ca := 1) (z := vP 1) hnew (y_idR (n := 86) (j := 0) (by omega)) (by omega)
                  rw [g86] at this
                  have this : y_gv (rv0 ++ y') 86 = 1 * (y_w A (y_gv rv0 31) v).1 + 1 := this
                  rcases y_wS A (y_gv rv0 31) v with ⟨-, h⟩ | ⟨h, -⟩
                  · rw [h]
                    show _ = (y_w A (y_gv rv0 31) v).1 + 1
                    omega
                  · exact absurd hyes h
                · have := y_v2 (a := 31) (ca := 1) (b := 88) (cb := 1) (z := vP 0) hnew (y_idR (n := 86) (j := 1) (by omega)) (by omega) (by omega)
                  rw [gb 31 (by omega), g88] at this
                  have this : y_gv (rv0 ++ y') 87 = 1 * y_gv rv0 31 + 1 * (v : Int) + 0 := this
                  rcases y_wS A (y_gv rv0 31) v with ⟨-, h⟩ | ⟨h, -⟩
                  · rw [h]
                    show _ = (v : Int) + y_gv rv0 31
                    omega
                  · exact absurd hyes h
                · have := y_v1 (a := 88) (ca := 1) (z := vP 1) hnew (y_idR (n := 86) (j := 2) (by omega)) (by omega)
                  rw [g88] at this
                  have this : y_gv (rv0 ++ y') 88 = 1 * (v : Int) + 1 := this
                  omega
              rcases hi with ⟨rfl, hlaw⟩ | ⟨rfl, hno⟩
              · have hm : ((.inl (T, b), ge, ne) : sAl) ∈ [_, _, _, _] := hm
                rcases List.mem_cons.mp hm with hm | hm
                · cases hm
                  have g1 := y_g1 (a := 89) hf (.tail _ (List.Mem.head _)) (by omega)
                  rw [g89] at g1
                  have g1 : (1 : Int) ≤ 1 * sv + 0 := g1
                  refine stay (fun h => ?_) rfl rfl
                  rw [← hA] at h
                  rcases sv2 with ⟨z, -⟩ | ⟨-, z⟩
                  · exact h.1.2 z
                  · omega
                · rcases List.mem_cons.mp hm with hm | hm
                  · cases hm
                    have g2 := y_g2 hf (.tail _ (.tail _ (List.Mem.head _))) (by omega) (by omega)
                    have g3 := y_g3 hf (.tail _ (.tail _ (.tail _ (List.Mem.head _)))) (by omega) (by omega) (by omega)
                    rw [g87, g88] at g2 g3
                    rw [gb 31 (by omega)] at g3
                    have g2 : (0 : Int) ≤ 1 * (y_w A (y_gv rv0 31) v).2 + -1 * (v : Int) + 0 := g2
                    have g3 : (0 : Int) ≤ 1 * y_gv rv0 31 + -1 * (y_w A (y_gv rv0 31) v).2 + 1 * (v : Int) + 0 := g3
                    exact stay (fun h => h.2 ⟨by omega, by omega⟩) rfl rfl
                  · have isA : ∀ {z0 : Int}, z0 = y_gv RV 89 → z0 ≤ 0 → A (v : Int) := fun {z0} e0 h0 => by
                      rw [← hA]
                      refine ⟨hlaw, ?_⟩
                      rcases sv2 with ⟨-, z⟩ | ⟨z, -⟩
                      · rw [g89, z] at e0
                        omega
                      · exact z
                    rcases List.mem_cons.mp hm with hm | hm
                    · cases hm
                      have g1 := y_g1 hf (.tail _ (List.Mem.head _)) (by omega)
                      have g2 := y_g2 hf (.tail _ (.tail _ (List.Mem.head _))) (by omega) (by omega)
                      rw [g87, g88] at g2
                      have g1 : (0 : Int) ≤ -1 * y_gv RV 89 + 0 := g1
                      have g2 : (1 : Int) ≤ -1 * (y_w A (y_gv rv0 31) v).2 + 1 * (v : Int) + 0 := g2
                      exact more ⟨isA rfl (by omega), fun h => by omega⟩ rfl rfl
                    · rcases List.mem_cons.mp hm with hm | hm
                      · cases hm
                        have g1 := y_g1 hf (.tail _ (List.Mem.head _)) (by omega)
                        have g2 := y_g3 hf (.tail _ (.tail _ (List.Mem.head _))) (by omega) (by omega) (by omega)
                        rw [g87, g88, gb 31 (by omega)] at g2
                        have g1 : (0 : Int) ≤ -1 * y_gv RV 89 + 0 := g1
                        have g2 : (1 : Int) ≤ -1 * y_gv rv0 31 + 1 * (y_w A (y_gv rv0 31) v).2 + -1 * (v : Int) + 0 := g2
                        exact more ⟨isA rfl (by omega), fun h => by omega⟩ rfl rfl
                      · exact nomatch hm
              · have hm : ((.inl (T, b), ge, ne) : sAl) ∈ [_] := hm
                rcases List.mem_cons.mp hm with hm | hm
                · cases hm
                  have gk := nA (s_nm 0) (s_nm 0) rfl
                  refine stay (fun h => ?_) rfl rfl
                  rw [← hA] at h
                  obtain ⟨j, j1, j2⟩ := h.1.1
                  exact hno j (by omega) j1 j2
                · exact nomatch hm
          · unfold y_a269 at hm
            rcases List.mem_append.mp hm with hm | hm
            · cases hb : Nat.blt k 26 with
              | false => rw [hb] at hm; exact nomatch hm
              | true =>
                rw [hb] at hm
                simp only [cond_true] at hm
                rcases List.mem_cons.mp hm with hm | hm
                · cases hm
                · rcases List.mem_cons.mp hm with hm | hm
                  · cases hm
                  · exact nomatch hm
            · rcases hi with ⟨rfl, -⟩ | ⟨rfl, -⟩
              · have hm : ((.inr (nn, b), ge, ne) : sAl) ∈ [_, _, _, _] := hm
                rcases List.mem_cons.mp hm with hm | hm
                · cases hm
                · rcases List.mem_cons.mp hm with hm | hm
                  · cases hm
                  · rcases List.mem_cons.mp hm with hm | hm
                    · cases hm
                    · rcases List.mem_cons.mp hm with hm | hm
                      · cases hm
                      · exact nomatch hm
              · have hm : ((.inr (nn, b), ge, ne) : sAl) ∈ [_] := hm
                rcases List.mem_cons.mp hm with hm | hm
                · cases hm
                · exact nomatch hm
      -- at the head
      have F2' : q_Fr dC dI dA (rv0 ++ (y ++ [sv])) ad Hb H0 (mL 269) y_T269g ls1 vs1 H1 locs1 := by
        rw [hRV]
        exact F2
      refine q_segW (f := y_T269g) Cx hret hlocks hPP hX hlen (hdp2 _) hPV y_d269 F2' (fun T b ge ne hm hf y' ls3 vs3 H3 locs3 hnew F4 => ?_) (fun nn b ge ne hm hf v2 x H2 hnew w1 w2 w3 => ?_)
      · rcases List.mem_cons.mp hm with hm | hm
        · cases hm
        · rcases List.mem_cons.mp hm with hm | hm
          · cases hm
            have e9 : y_gv (rv0 ++ y') 88 = (v : Int) := by
              rw [y_same hnew (by rw [hRV]; exact rlen) (by omega), hRV]
              exact g88
            have hv2 : v < 100 := by
              obtain ⟨u, u1, u2, u3⟩ := F4.2.2.1.2.1 88 (vP 0, vP 99) rfl
              rw [y_gvE u1] at e9
              have u3 : u ≤ 99 := u3
              omega
            rw [y_same hnew (by rw [hRV]; exact rlen) (by omega)] at F4
            exact inn hv2 26 0 0 rfl (Or.inr ⟨rfl, fun j hj => by omega⟩) ls3 vs3 H3 locs3 F4
          · exact nomatch hm
      · rcases List.mem_cons.mp hm with hm | hm
        · cases hm
          have g1 := y_g1 (a := 88) hf (List.Mem.head _) (by rw [hRV, rlen]; omega)
          rw [hRV, g88] at g1
          have g1 : (100 : Int) ≤ 1 * (v : Int) + 0 := g1
          have ev : v = 100 := by omega
          subst ev
          intro t ht
          have xlen : x.length = 1 := by
            have := w2.1
            rw [List.length_append, hlen] at this
            have this : 86 + x.length = 87 := this
            omega
          have e86 : y_gv (rv0 ++ x) 86 = y_gv rv0 85 := by
            rw [y_vn (j := 86) hnew (y_idS (by omega) (by omega)) (by rw [hRV, rlen]; omega), hRV, g86, hw]
          refine ⟨v2, rfl, s_nO (some (.inl (s_nm 85)), y_E269, y_hB), List.mem_singleton.mpr rfl, [], rfl, ?_, by rw [List.append_nil]; exact hE, ?_⟩
          · obtain ⟨w, e1, y0, e2, e3⟩ := w1
            refine ⟨w, e1, y0, e2, ?_⟩
            have e4 : s_val (rv0 ++ x) (s_nm 86) = some (y_gv (rv0 ++ x) 86) := s_nmS (y_get (by rw [List.length_append]; omega))
            have e3 : s_val (rv0 ++ x) (s_nm 86) = some y0.toInt := e3
            rw [e4, e86] at e3
            rw [List.append_nil]
            show s_val rv0 (s_nm 85) = _
            rw [← e3]
            exact s_nmS (y_get (by omega))
          · rw [ht, List.append_nil]
            exact s_heapT (T := y_E269) (t := y_hB) w2 rfl (th := y_id 86) (rw := rv0) ⟨by rw [y_idN (by omega), hlen], fun k f hk => by
              have hk2 : k < 86 := by
                have := (List.getElem?_eq_some_iff.mp hk).1
                rw [y_idN (by omega)] at this
                exact this
              rw [y_idS hk2 (by omega)] at hk
              cases hk
              refine ⟨y_gv rv0 k, y_get (by omega), s_nmS ?_⟩
              rw [List.getElem?_append_left (by omega)]
              exact y_get (by omega)⟩ rfl y_h269 (by decide +kernel) w3
        · rcases List.mem_cons.mp hm with hm | hm
          · cases hm
          · exact nomatch hm
  have F' : q_Fr dC dI dA (rv0 ++ []) ad Hb H0 (mL 269) (0, s_args 0 y_k269.2.1, [], y_E269, y_hB) ls [] H0 [] := by rw [List.append_nil]; exact F
  have hX : q_XOKp l dC dI dA Hb ad K (s_num (vP 10)) (fun _ => True) y_X := q_xokO (y_xok K _)
  refine q_segW Cx hret hlocks (fun _ _ _ => trivial) hX hlen (hdp2 _) trivial y_o269 F' (fun T b ge ne hm hf y' ls2 vs2 H2 locs2 hnew F2 => ?_) (fun nn b ge ne hm hf v x H2 hnew w1 w2 w3 => ?_)
  · rcases List.mem_cons.mp hm with hm | hm
    · cases hm
      exact hd 100 0 rfl y' ls2 vs2 H2 locs2 F2 (y_v0 hnew (y_idR (n := 86) (j := 0) (by omega))) (y_v0 hnew (y_idR (n := 86) (j := 1) (by omega))) (y_v0 hnew (y_idR (n := 86) (j := 2) (by omega)))
    · exact nomatch hm
  · rcases List.mem_cons.mp hm with hm | hm
    · cases hm
    · exact nomatch hm
end Wanting
