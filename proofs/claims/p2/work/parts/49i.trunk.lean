/-! trunk. -/
theorem x_idA : ∀ k, k < 110 → x_m110[k]? = some (s_nm k) := by decide +kernel
theorem x_idS {n k : Nat} (hk : k < n) (hn : n ≤ 110) : (x_id n)[k]? = some (s_nm k) := by
  unfold x_id
  rw [List.getElem?_take, if_pos hk]
  exact x_idA k (by omega)
theorem x_idN {n : Nat} (hn : n ≤ 110) : (x_id n).length = n := by
  have h : x_m110.length = 110 := rfl
  unfold x_id
  rw [List.length_take, h]
  omega
theorem x_rLB : (List.range 26).all (fun k => y_isN (x_rL[k % x_rL.length]?) (44 + k)) = true := by decide +kernel
theorem x_rLS : ∀ k, k < 26 → x_rL[k % x_rL.length]? = some (.inl (s_nm (44 + k))) := fun k hk => y_isNS (List.all_eq_true.mp x_rLB k (List.mem_range.mpr hk))
theorem x_BL : ∀ k, k < 26 → x_BK[44 + k]? = some (vP 0, vP 99) := by decide +kernel
theorem x_thL : ∀ k, k < 26 → x_th[32 + k]? = some (s_nm (44 + k)) := by decide +kernel
/-- every law is served -/
def x_S (r : List Int) : Prop := ∀ k : Nat, (k : Int) < y_gv r 4 → ∃ i : Nat, (i : Int) < y_gv r 96 ∧ y_gv r (44 + k) ≤ y_gv r (70 + i) ∧ y_gv r (70 + i) ≤ y_gv r (44 + k) + y_gv r 43
theorem x_Sm {r r' : List Int} (h : ∀ j, j < 97 → y_gv r' j = y_gv r j) (h1 : y_gv r 4 ≤ 26) (h2 : y_gv r 96 ≤ 26) (hS : x_S r) : x_S r' := by
  intro k hk
  rw [h 4 (by omega)] at hk
  obtain ⟨i, i1, i2, i3⟩ := hS k hk
  refine ⟨i, by rw [h 96 (by omega)]; exact i1, ?_, ?_⟩
  · rw [h (44 + k) (by omega), h (70 + i) (by omega)]
    exact i2
  · rw [h (44 + k) (by omega), h (70 + i) (by omega), h 43 (by omega)]
    exact i3
section TrunkH
variable {dC : Nat → ClassId} {dI : Nat → Nat → Nat} {dA : FieldType → ClassId} {ad : Nat → Nat} {Hb H0 H : Heap} {rv rw x : List Int}
theorem x_idL {n k : Nat} {t : List sF} (hk : k < n) (hn : n ≤ 110) : (x_id n ++ t)[k]? = some (s_nm k) := by
  rw [List.getElem?_append_left (by rw [x_idN hn]; exact hk)]
  exact x_idS hk hn
theorem x_idR {n j : Nat} {t : List sF} (hn : n ≤ 110) : (x_id n ++ t)[n + j]? = t[j]? := by
  rw [List.getElem?_append_right (by rw [x_idN hn]; omega), x_idN hn, Nat.add_sub_cancel_left]
theorem x_same {n : Nat} (h : y_new rv (x_id n) rw) (hl : rv.length = n) (hn : n ≤ 110) : rw = rv := by
  apply List.ext_getElem?
  intro k
  by_cases hk : k < n
  · have := y_vn h (x_idS hk hn) (by omega)
    rw [y_get (by rw [← h.1, x_idN hn]; exact hk), y_get (by omega), this]
  · rw [List.getElem?_eq_none (by rw [← h.1, x_idN hn]; omega), List.getElem?_eq_none (by omega)]
theorem x_addch {f : sG} {k : Nat} {nL : Nat} {ls : Array Slot} {vs : List Value} {locs : List Loc} (F : q_Fr dC dI dA rv ad Hb H0 nL f ls vs H locs) (hk : s_hget f.2.2.2.2 97 = some (vR .int 26 x_rL [])) (hl : 101 < rv.length) (hk26 : k < 26) (h1 : y_gv rv 100 = (k : Int)) (h2 : y_gv rv 101 = y_gv rv (44 + k)) : q_Fr dC dI dA rv ad Hb H0 nL (f.1, f.2.1, f.2.2.1, f.2.2.2.1, s_hset f.2.2.2.2 97 x_rK) ls vs H locs := by
  obtain ⟨pc, l0, st, E, h⟩ := f
  obtain ⟨f1, f2, f3, f4, f5⟩ := F
  dsimp only at hk f1 f2 f3 f4 ⊢
  obtain ⟨n', g, c1, c2, c3, c4⟩ := f4.2.2.2.2.1 _ (s_hgetS hk)
  have en : n' = 26 := by
    have h1 : s_val rv (s_num (Int.ofNat 26)) = some (n' : Int) := c2.1
    rw [s_numS] at h1
    have h1 : ((26 : Nat) : Int) = (n' : Int) := Option.some.inj h1
    omega
  subst en
  refine ⟨f1, f2, f3, q_G.tell f4 hk rfl ⟨26, g, c1.as rfl rfl rfl, ⟨c2.1, c2.2.1, c2.2.2.1, fun p hp => ?_, fun p hp => nomatch hp⟩, c3, c4⟩, f5⟩
  rcases List.mem_cons.mp hp with rfl | hp
  · refine ⟨k, hk26, ?_, ?_⟩
    · rw [← h1]
      exact s_nmS (y_get (by omega))
    · obtain ⟨w, w1, w2⟩ := c2.2.2.1 k hk26
      have w1 : x_rL[k % x_rL.length]? = some w := w1
      rw [x_rLS k hk26] at w1
      cases w1
      have w2 : s_val rv (s_nm (44 + k)) = some (g k).toInt := w2
      rw [s_nmS (y_get (by omega))] at w2
      rw [← w2, ← h2]
      exact s_nmS (y_get (by omega))
  · exact nomatch hp
end TrunkH
section Trunk
variable {l : Launch} {dC : Nat → ClassId} {dI : Nat → Nat → Nat} {dA : FieldType → ClassId} {Hb : Heap} {ad : Nat → Nat}
set_option maxHeartbeats 8000000 in
theorem ko_306 {K : Nat} (ih : ∀ D, D < K → ∀ c, ∀ C ∈ tab c, q_KOK l dC dI dA Hb ad c C D) : q_KOK l dC dI dA Hb ad 272 k_306 K := by
  intro rv0 H0 vs hdp hL hE hG
  have hlen : rv0.length = 34 := hE.1
  refine q_metW (k := 272) (by decide) (by decide +kernel) (by decide +kernel) hL hE hG (fun p e s m below meth c ls Cx hret hlocks F => ?_)
  have hdp2 : ∀ y, s_val (rv0 ++ y) (s_num (vP 227)) = some (K : Int) := fun y => s_val_mono _ hdp
  have hX1 : q_XOKp l dC dI dA Hb ad K (s_num (vP 227)) (fun _ => True) x_X := q_xokO (q_xok 8 K _ ih)
  have hX0 : q_XOKp l dC dI dA Hb ad K (s_num (vP 227)) (fun _ => True) y_X := q_xokO (y_xok K _)
  have endQ : ∀ (v : Option Value) (x : List Int) (H2 : Heap), q_ret (rv0 ++ x) ad x_n.1 v → q_E (rv0 ++ x) x_n.2.1 → q_G dC dI dA (rv0 ++ x) ad Hb H0 x_n.2.1 x_n.2.2 H2 → ∀ t : State, t.heap = H2 → q_Qc dC dI dA rv0 ad Hb H0 (k_306.2.2.2.2.map s_nO) vs.toArray s (.returned v) t := fun v x H2 w1 w2 w3 t ht => ⟨v, rfl, s_nO x_n, List.mem_singleton.mpr rfl, x, rfl, w1, w2, by rw [ht]; exact w3⟩
  -- the second loop
  have h61 : ∀ (d : Nat) (y : List Int) (ls1 : Array Slot) (vs1 : List Value) (H1 : Heap) (locs1 : List Loc), q_Fr dC dI dA (rv0 ++ y) ad Hb H0 (mL 272) x_T61 ls1 vs1 H1 locs1 → x_S (rv0 ++ y) → y_gv (rv0 ++ y) 4 - y_gv (rv0 ++ y) 100 ≤ (d : Int) → W p l e (q_rm K 0 0) s m vs.toArray below meth c H1 locs1 0 0 (MQ below (q_Qc dC dI dA rv0 ad Hb H0 (k_306.2.2.2.2.map s_nO)) vs.toArray s 0 0 (fun q => Hb.size ≤ q)) (F0 m x_T61.1 ls1 vs1) := by
    intro d
    induction d using Nat.strongRecOn with
    | ind d ihd =>
      intro y ls1 vs1 H1 locs1 F1 hS hd
      have hl : (rv0 ++ y).length = 101 := F1.2.2.1.1
      have bd : ∀ (k : Nat) (i : pI), x_BK[k]? = some i → i.1 ≤ y_gv (rv0 ++ y) k ∧ y_gv (rv0 ++ y) k ≤ i.2 := fun k i hi => by
        obtain ⟨u, u1, u2, u3⟩ := F1.2.2.1.2.1 k i hi
        rw [y_gvE u1]
        exact ⟨u2, u3⟩
      have b4 : 0 ≤ y_gv (rv0 ++ y) 4 ∧ y_gv (rv0 ++ y) 4 ≤ 26 := bd 4 (vP 0, vP 26) rfl
      have b96 : 0 ≤ y_gv (rv0 ++ y) 96 ∧ y_gv (rv0 ++ y) 96 ≤ 26 := bd 96 (vP 0, vP 26) rfl
      have b100 : 0 ≤ y_gv (rv0 ++ y) 100 ∧ y_gv (rv0 ++ y) 100 ≤ 26 := bd 100 (vP 0, vP 26) rfl
      have hcc := F1.2.2.1.2.2.1
      by_cases hx : y_gv (rv0 ++ y) 4 ≤ y_gv (rv0 ++ y) 100
      · -- its end
        have F2 : q_Fr dC dI dA (rv0 ++ y) ad Hb H0 (mL 272) x_T61x ls1 vs1 H1 locs1 := by
          refine ⟨F1.1, F1.2.1, y_con F1.2.2.1 (fun q hq => ?_), F1.2.2.2.1.env rfl, F1.2.2.2.2⟩
          rcases List.mem_cons.mp hq with rfl | hq
          · refine ⟨_, y_ev (y_b2 (by omega) (by omega)), ?_⟩
            show (0 : Int) ≤ -1 * y_gv (rv0 ++ y) 4 + (1 * y_gv (rv0 ++ y) 100 + 0)
            omega
          · exact hcc q hq
        refine q_segW (f := x_T61x) Cx hret hlocks (fun _ _ _ => trivial) hX0 hlen (hdp2 _) trivial x_o61x F2 (fun T b ge ne hm hf y' ls3 vs3 H3 locs3 hnew F4 => ?_) (fun nn b ge ne hm hf v2 x H2 hnew w1 w2 w3 => ?_)
        · rcases List.mem_cons.mp hm with hm | hm
          · cases hm
          · exact nomatch hm
        · rcases List.mem_cons.mp hm with hm | hm
          · cases hm
            exact endQ v2 x H2 w1 w2 w3
          · exact nomatch hm
      · -- a law more
        obtain ⟨k, hk⟩ : ∃ k : Nat, y_gv (rv0 ++ y) 100 = (k : Int) := ⟨(y_gv (rv0 ++ y) 100).toNat, by omega⟩
        have k26 : k < 26 := by omega
        have bL := bd (44 + k) (vP 0, vP 99) (x_BL k k26)
        have F2 := y_ghost (i := (vP 0, vP 99)) (z := y_gv (rv0 ++ y) (44 + k)) F1 bL.1 bL.2
        rw [List.append_assoc] at F2
        generalize hRV : rv0 ++ (y ++ [y_gv (rv0 ++ y) (44 + k)]) = RV at F2
        have rl : RV.length = 102 := by rw [← hRV, ← List.append_assoc, List.length_append, hl]; rfl
        have gy : ∀ j, j < 101 → y_gv RV j = y_gv (rv0 ++ y) j := fun j hj => by rw [← hRV, ← List.append_assoc]; exact y_gvA _ (by omega)
        have g101 : y_gv RV 101 = y_gv RV (44 + k) := by
          rw [gy (44 + k) (by omega), ← hRV, ← List.append_assoc]
          refine y_gvE ?_
          rw [List.getElem?_append_right (by omega), hl]
          rfl
        have g100 : y_gv RV 100 = (k : Int) := (gy 100 (by omega)).trans hk
        have cons : ∀ q ∈ [x_cg, x_cc], ∃ v, s_ev RV q.1 = some v ∧ q.2 ≤ v := fun q hq => by
          rcases List.mem_cons.mp hq with rfl | hq
          · refine ⟨_, y_ev (y_b2 (by omega) (by omega)), ?_⟩
            show (1 : Int) ≤ 1 * y_gv RV 4 + (-1 * y_gv RV 100 + 0)
            rw [gy 4 (by omega), gy 100 (by omega)]
            omega
          · obtain ⟨v, v1, v2⟩ := hcc q hq
            refine ⟨v, ?_, v2⟩
            rw [← hRV, ← List.append_assoc]
            exact s_ev_mono _ v1
        -- behind it
        have out : ∀ (y' : List Int) (ls3 : Array Slot) (vs3 : List Value) (H3 : Heap) (locs3 : List Loc), (∀ j, j < 97 → y_gv (rv0 ++ y') j = y_gv RV j) → y_gv (rv0 ++ y') 100 = (k : Int) + 1 → q_Fr dC dI dA (rv0 ++ y') ad Hb H0 (mL 272) x_T61 ls3 vs3 H3 locs3 → W p l e (q_rm K 0 0) s m vs.toArray below meth c H3 locs3 0 0 (MQ below (q_Qc dC dI dA rv0 ad Hb H0 (k_306.2.2.2.2.map s_nO)) vs.toArray s 0 0 (fun q => Hb.size ≤ q)) (F0 m x_T61.1 ls3 vs3) := by
          intro y' ls3 vs3 H3 locs3 h1 h2 F4
          have e : ∀ j, j < 97 → y_gv (rv0 ++ y') j = y_gv (rv0 ++ y) j := fun j hj => (h1 j hj).trans (gy j (by omega))
          refine ihd (d - 1) (by omega) y' ls3 vs3 H3 locs3 F4 (x_Sm e b4.2 b96.2 hS) ?_
          rw [e 4 (by omega), h2]
          omega
        -- the inner while
        obtain ⟨is, is1, is2, is3⟩ := hS k (by omega)
        have inn : ∀ (n i : Nat), i + n = 26 → (∀ j : Nat, j < i → ¬(y_gv RV (44 + k) ≤ y_gv RV (70 + j) ∧ y_gv RV (70 + j) ≤ y_gv RV (44 + k) + y_gv RV 43)) → ∀ (ls3 : Array Slot) (vs3 : List Value) (H3 : Heap) (locs3 : List Loc), q_Fr dC dI dA (rv0 ++ (y ++ [y_gv (rv0 ++ y) (44 + k)])) ad Hb H0 (mL 272) (x_T98 i) ls3 vs3 H3 locs3 → W p l e (q_rm K 0 0) s m vs.toArray below meth c H3 locs3 0 0 (MQ below (q_Qc dC dI dA rv0 ad Hb H0 (k_306.2.2.2.2.map s_nO)) vs.toArray s 0 0 (fun q => Hb.size ≤ q)) (F0 m (x_T98 i).1 ls3 vs3) := by
          intro n
          induction n using Nat.strongRecOn with
          | ind n ihn =>
            intro i hi hj ls3 vs3 H3 locs3 F3
            have i26 : i < 26 := by
              by_cases h : i < 26
              · exact h
              · exfalso
                refine hj is (by omega) ?_
                rw [gy (44 + k) (by omega), gy (70 + is) (by omega), gy 43 (by omega)]
                exact ⟨is2, is3⟩
            have F3' := x_addch (k := k) F3 rfl (by rw [hRV]; omega) k26 (by rw [hRV]; exact g100) (by rw [hRV]; exact g101)
            refine q_segW (f := x_T98g i) Cx hret hlocks (fun _ _ _ => trivial) hX0 hlen (hdp2 _) trivial (x_c98 i i26) F3' (fun T b ge ne hm hf y' ls4 vs4 H4 locs4 hnew F4 => ?_) (fun nn b ge ne hm hf v2 x H2 hnew w1 w2 w3 => ?_)
            · rw [hRV] at hf hnew
              have on : ¬(y_gv RV (44 + k) ≤ y_gv RV (70 + i) ∧ y_gv RV (70 + i) ≤ y_gv RV (44 + k) + y_gv RV 43) → y_new RV (x_id 102) (rv0 ++ y') → q_Fr dC dI dA (rv0 ++ y') ad Hb H0 (mL 272) (x_T98 (i + 1)) ls4 vs4 H4 locs4 → W p l e (q_rm K 0 0) s m vs.toArray below meth c H4 locs4 0 0 (MQ below (q_Qc dC dI dA rv0 ad Hb H0 (k_306.2.2.2.2.map s_nO)) vs.toArray s 0 0 (fun q => Hb.size ≤ q)) (F0 m (x_T98 (i + 1)).1 ls4 vs4) := by
                intro hno hnw F5
                rw [x_same hnw rl (by omega), ← hRV] at F5
                refine ihn (n - 1) (by omega) (i + 1) (by omega) (fun j hj2 => ?_) ls4 vs4 H4 locs4 F5
                by_cases e : j = i
                · subst e
                  exact hno
                · exact hj j (by omega)
              rcases List.mem_cons.mp hm with hm | hm
              · cases hm
                refine out y' ls4 vs4 H4 locs4 (fun j hj => y_vn (j := j) hnew (x_idL (by omega) (by omega)) (by omega)) ?_ F4
                have := y_v1 (k := 100) (a := 100) (ca := 1) (z := vP 1) hnew (x_idR (n := 98) (j := 2) (by omega)) (by omega)
                rw [g100] at this
                have this : y_gv (rv0 ++ y') 100 = 1 * (k : Int) + 1 := this
                omega
              · rcases List.mem_cons.mp hm with hm | hm
                · cases hm
                  have g := y_g2 hf (List.Mem.head _) (by omega) (by omega)
                  rw [g101] at g
                  have g : (1 : Int) ≤ -1 * y_gv RV (70 + i) + 1 * y_gv RV (44 + k) + 0 := g
                  exact on (fun h => by omega) hnew F4
                · rcases List.mem_cons.mp hm with hm | hm
                  · cases hm
                    have g := y_g3 hf (List.Mem.head _) (by omega) (by omega) (by omega)
                    rw [g101] at g
                    have g : (1 : Int) ≤ -1 * y_gv RV 43 + 1 * y_gv RV (70 + i) + -1 * y_gv RV (44 + k) + 0 := g
                    exact on (fun h => by omega) hnew F4
                  · exact nomatch hm
            · rcases List.mem_cons.mp hm with hm | hm
              · cases hm
              · rcases List.mem_cons.mp hm with hm | hm
                · cases hm
                · rcases List.mem_cons.mp hm with hm | hm
                  · cases hm
                  · exact nomatch hm
        -- at the head
        have F2c : q_Fr dC dI dA RV ad Hb H0 (mL 272) (61, x_lo, [], (false, x_BK ++ [(vP 0, vP 99)], [x_cg, x_cc], []), x_hB) ls1 vs1 H1 locs1 := ⟨F2.1, F2.2.1, y_con F2.2.2.1 cons, F2.2.2.2.1.env rfl, F2.2.2.2.2⟩
        have F3 : q_Fr dC dI dA (rv0 ++ (y ++ [y_gv (rv0 ++ y) (44 + k)])) ad Hb H0 (mL 272) x_T61g ls1 vs1 H1 locs1 := by
          rw [hRV]
          exact x_addch (k := k) F2c rfl (by omega) k26 g100 g101
        refine q_segW (f := x_T61g) Cx hret hlocks (fun _ _ _ => trivial) hX0 hlen (hdp2 _) trivial x_o61g F3 (fun T b ge ne hm hf y' ls3 vs3 H3 locs3 hnew F4 => ?_) (fun nn b ge ne hm hf v2 x H2 hnew w1 w2 w3 => ?_)
        · rw [hRV] at hf hnew
          rcases List.mem_cons.mp hm with hm | hm
          · cases hm
            refine out y' ls3 vs3 H3 locs3 (fun j hj => y_vn (j := j) hnew (x_idL (by omega) (by omega)) (by omega)) ?_ F4
            have := y_v1 (k := 100) (a := 100) (ca := 1) (z := vP 1) hnew (x_idR (n := 100) (j := 0) (by omega)) (by omega)
            rw [g100] at this
            have this : y_gv (rv0 ++ y') 100 = 1 * (k : Int) + 1 := this
            omega
          · rcases List.mem_cons.mp hm with hm | hm
            · cases hm
              rw [x_same hnew rl (by omega), ← hRV] at F4
              exact inn 26 0 rfl (fun j hj => by omega) ls3 vs3 H3 locs3 F4
            · exact nomatch hm
        · rcases List.mem_cons.mp hm with hm | hm
          · cases hm
          · rcases List.mem_cons.mp hm with hm | hm
            · cases hm
            · exact nomatch hm
  -- the first loop
  have h28 : ∀ (d : Nat) (y : List Int) (ls1 : Array Slot) (vs1 : List Value) (H1 : Heap) (locs1 : List Loc), q_Fr dC dI dA (rv0 ++ y) ad Hb H0 (mL 272) x_T28 ls1 vs1 H1 locs1 → x_S (rv0 ++ y) → y_gv (rv0 ++ y) 96 - y_gv (rv0 ++ y) 98 ≤ (d : Int) → W p l e (q_rm K 0 0) s m vs.toArray below meth c H1 locs1 0 0 (MQ below (q_Qc dC dI dA rv0 ad Hb H0 (k_306.2.2.2.2.map s_nO)) vs.toArray s 0 0 (fun q => Hb.size ≤ q)) (F0 m x_T28.1 ls1 vs1) := by
    intro d
    induction d using Nat.strongRecOn with
    | ind d ihd =>
      intro y ls1 vs1 H1 locs1 F1 hS hd
      have hl : (rv0 ++ y).length = 99 := F1.2.2.1.1
      have b4 : y_gv (rv0 ++ y) 4 ≤ 26 := by
        obtain ⟨u, u1, u2, u3⟩ := F1.2.2.1.2.1 4 (vP 0, vP 26) rfl
        rw [y_gvE u1]
        exact u3
      have b96 : y_gv (rv0 ++ y) 96 ≤ 26 := by
        obtain ⟨u, u1, u2, u3⟩ := F1.2.2.1.2.1 96 (vP 0, vP 26) rfl
        rw [y_gvE u1]
        exact u3
      refine q_segW (f := x_T28) Cx hret hlocks (fun _ _ _ => trivial) hX0 hlen (hdp2 _) trivial x_o28 F1 (fun T b ge ne hm hf y' ls3 vs3 H3 locs3 hnew F4 => ?_) (fun nn b ge ne hm hf v2 x H2 hnew w1 w2 w3 => ?_)
      · rcases List.mem_cons.mp hm with hm | hm
        · cases hm
          have e : ∀ j, j < 97 → y_gv (rv0 ++ y') j = y_gv (rv0 ++ y) j := fun j hj => y_vn (j := j) hnew (x_idL (by omega) (by omega)) (by omega)
          have g := y_g2 hf (List.Mem.head _) (by omega) (by omega)
          have g : (1 : Int) ≤ 1 * y_gv (rv0 ++ y) 96 + -1 * y_gv (rv0 ++ y) 98 + 0 := g
          have e98 := y_v1 (k := 98) (a := 98) (ca := 1) (z := vP 1) hnew (x_idR (n := 97) (j := 1) (by omega)) (by omega)
          have e98 : y_gv (rv0 ++ y') 98 = 1 * y_gv (rv0 ++ y) 98 + 1 := e98
          refine ihd (d - 1) (by omega) y' ls3 vs3 H3 locs3 F4 (x_Sm e b4 b96 hS) ?_
          rw [e 96 (by omega), e98]
          omega
        · rcases List.mem_cons.mp hm with hm | hm
          · cases hm
            have e : ∀ j, j < 97 → y_gv (rv0 ++ y') j = y_gv (rv0 ++ y) j := fun j hj => y_vn (j := j) hnew (x_idL (by omega) (by omega)) (by omega)
            have e100 : y_gv (rv0 ++ y') 100 = 0 := y_v0 hnew (x_idR (n := 98) (j := 2) (by omega))
            refine h61 26 y' ls3 vs3 H3 locs3 F4 (x_Sm e b4 b96 hS) ?_
            rw [e 4 (by omega), e100]
            omega
          · exact nomatch hm
      · rcases List.mem_cons.mp hm with hm | hm
        · cases hm
        · rcases List.mem_cons.mp hm with hm | hm
          · cases hm
          · exact nomatch hm
  -- findTaken
  have h18 : ∀ (y : List Int) (ls1 : Array Slot) (vs1 : List Value) (H1 : Heap) (locs1 : List Loc), q_Fr dC dI dA (rv0 ++ y) ad Hb H0 (mL 272) x_T18p ls1 vs1 H1 locs1 → W p l e (q_rm K 0 0) s m vs.toArray below meth c H1 locs1 0 0 (MQ below (q_Qc dC dI dA rv0 ad Hb H0 (k_306.2.2.2.2.map s_nO)) vs.toArray s 0 0 (fun q => Hb.size ≤ q)) (F0 m 18 ls1 vs1) := by
    intro y ls1 vs1 H1 locs1 F1
    have hl : (rv0 ++ y).length = 70 := F1.2.2.1.1
    have hcl := x_ocl
    unfold x_cl at hcl
    split at hcl
    · rename_i c0 as0 f0 hstep
      rw [Bool.and_eq_true, Bool.and_eq_true, Bool.and_eq_true] at hcl
      obtain ⟨⟨⟨c1, c2⟩, c3⟩, c4⟩ := hcl
      have ec := Nat.eq_of_beq_eq_true c1
      subst ec
      have eas : as0 = [vr 74] := by
        unfold x_isM at c2
        split at c2
        · rename_i k
          rw [Nat.eq_of_beq_eq_true c2]
          rfl
        · cases c2
      subst eas
      obtain ⟨nx, rs, rfl, hcat, -, site⟩ := q_site hstep
      have enx : nx = 21 := Nat.eq_of_beq_eq_true c3
      have ers : rs = [] := s_nilS c4
      subst enx
      subst ers
      have hck := x_oc
      unfold x_ck at hck
      split at hck
      · cases hck
      · rename_i os hos
        have hall := List.all_eq_true.mp hck
        refine y_callKs (S := fun rv0 x => x.length = 27 ∧ y_S270 rv0 x) (by decide) (by decide +kernel) (hdp2 y) (fun D _ => y_m270) hos p e (q_rm K 0 0) s m vs.toArray below meth c H0 H1 locs1 0 0 _ 272 18 21 _ _ _ ls1 vs1 Cx site hcat F1 (Nat.le_refl _) (Nat.le_refl _) (Nat.le_refl _) (Nat.le_refl _) (fun o ho => ?_) (fun o ho f hf x ls2 vs2 H2 locs2 hS F2 => ?_)
        · have := hall o ho
          split at this
          · cases this
          · rename_i f hf
            exact ⟨f, hf⟩
        · have := hall o ho
          rw [hf] at this
          have this : s_toB 97 (x_id 97) x_T21 f.2.2 = true := this
          obtain ⟨rw', ht, hx27, hS⟩ := hS
          have hl97 : (rv0 ++ y ++ x).length = 97 := by rw [List.length_append, hl, hx27]
          obtain ⟨y2, k1, k2, k3⟩ := s_toBS (rv0 := rv0 ++ y ++ x) (y := []) hl97 (by rw [List.append_nil]; exact F2) this
          have ey : y2 = [] := y_nil (by rw [hl97]; exact k2.2.2.1.1)
          subst ey
          rw [List.append_nil] at k2
          rw [← k3]
          have hn := y_newT ht
          have rl : rw'.length = 58 := hn.1.symm
          have s1 : y_gv rw' 25 = y_gv (rv0 ++ y) 4 := y_vn (j := 4) hn rfl (by omega)
          have s2 : y_gv rw' 31 = y_gv (rv0 ++ y) 43 := y_vn (j := 43) hn rfl (by omega)
          have s3 : ∀ k, k < 26 → y_gv rw' (32 + k) = y_gv (rv0 ++ y) (44 + k) := fun k hk => y_vn (j := 44 + k) hn (x_thL k hk) (by omega)
          have gl : ∀ j, j < 70 → y_gv (rv0 ++ y ++ x) j = y_gv (rv0 ++ y) j := fun j hj => y_gvA _ (by omega)
          have gx : ∀ i, y_gv (rw' ++ x) (58 + i) = y_gv (rv0 ++ y ++ x) (70 + i) := fun i => by
            unfold y_gv
            rw [List.getElem?_append_right (by omega), List.getElem?_append_right (by omega), rl, hl, Nat.add_sub_cancel_left, Nat.add_sub_cancel_left]
          have b4 : y_gv (rv0 ++ y) 4 ≤ 26 := by
            obtain ⟨u, u1, u2, u3⟩ := F1.2.2.1.2.1 4 (vP 0, vP 26) rfl
            rw [y_gvE u1]
            exact u3
          have hS2 : x_S (rv0 ++ y ++ x) := fun k hk => by
            rw [gl 4 (by omega)] at hk
            obtain ⟨i, i1, i2, i3⟩ := hS k (by rw [s1]; exact hk)
            have i1 : (i : Int) < y_gv (rw' ++ x) (58 + 26) := i1
            have i2 : y_gv rw' (32 + k) ≤ y_gv (rw' ++ x) (58 + i) := i2
            have i3 : y_gv (rw' ++ x) (58 + i) ≤ y_gv rw' (32 + k) + y_gv rw' 31 := i3
            rw [gx] at i1 i2 i3
            rw [s3 k (by omega)] at i2 i3
            rw [s2] at i3
            refine ⟨i, i1, ?_, ?_⟩
            · rw [gl (44 + k) (by omega)]
              exact i2
            · rw [gl (44 + k) (by omega), gl 43 (by omega)]
              exact i3
          rw [List.append_assoc] at k2 hS2 hl97
          refine q_segW (f := x_T21) Cx hret hlocks (fun _ _ _ => trivial) hX0 hlen (hdp2 _) trivial x_o21 k2 (fun T b ge ne hm hf y' ls3 vs3 H3 locs3 hnew F4 => ?_) (fun nn b ge ne hm hf v2 x H2 hnew w1 w2 w3 => ?_)
          · rcases List.mem_cons.mp hm with hm | hm
            · cases hm
              have e : ∀ j, j < 97 → y_gv (rv0 ++ y') j = y_gv (rv0 ++ (y ++ x)) j := fun j hj => y_vn (j := j) hnew (x_idL (by omega) (by omega)) (by omega)
              have b96 : y_gv (rv0 ++ (y ++ x)) 96 ≤ 26 := by
                obtain ⟨u, u1, u2, u3⟩ := k2.2.2.1.2.1 96 (vP 0, vP 26) rfl
                rw [y_gvE u1]
                exact u3
              have b4' : y_gv (rv0 ++ (y ++ x)) 4 ≤ 26 := by
                rw [← List.append_assoc, gl 4 (by omega)]
                exact b4
              have e98 : y_gv (rv0 ++ y') 98 = 0 := y_v0 hnew (x_idR (n := 97) (j := 1) (by omega))
              refine h28 26 y' ls3 vs3 H3 locs3 F4 (x_Sm e b4' b96 hS2) ?_
              rw [e 96 (by omega), e98]
              omega
            · exact nomatch hm
          · rcases List.mem_cons.mp hm with hm | hm
            · cases hm
            · exact nomatch hm
    · cases hcl
  -- the entry
  have F' : q_Fr dC dI dA (rv0 ++ []) ad Hb H0 (mL 272) (0, s_args 0 k_306.2.1, [], k_306.2.2.1, k_306.2.2.2.1) ls [] H0 [] := by rw [List.append_nil]; exact F
  refine q_segW Cx hret hlocks (fun _ _ _ => trivial) hX1 hlen (hdp2 _) trivial x_o F' (fun T b ge ne hm hf y' ls2 vs2 H2 locs2 hnew F2 => ?_) (fun nn b ge ne hm hf v x H2 hnew w1 w2 w3 => ?_)
  · rcases List.mem_cons.mp hm with hm | hm
    · cases hm
      have hl : (rv0 ++ y').length = 43 := F2.2.2.1.1
      obtain ⟨Y1, l1, F3⟩ := y_peek (k := 79) (n := 3) (q := 1) (N := 43) (lo := vP 0) (hi := vP 9) (fs' := x_r0) (by omega) F2 hl rfl (by decide) (y_pkH (by decide +kernel))
      obtain ⟨Y2, l2, F4⟩ := y_peek (k := 97) (n := 26) (q := 26) (N := 44) (lo := vP 0) (hi := vP 99) (fs' := x_rL) (Nat.le_refl _) F3 (by rw [List.length_append, hl, l1]) rfl (by decide) (y_pkH (by decide +kernel))
      rw [List.append_assoc, List.append_assoc] at F4
      exact h18 (y' ++ (Y1 ++ Y2)) ls2 vs2 H2 locs2 F4
    · rcases List.mem_cons.mp hm with hm | hm
      · cases hm
      · rcases List.mem_cons.mp hm with hm | hm
        · cases hm
        · rcases List.mem_cons.mp hm with hm | hm
          · cases hm
          · exact nomatch hm
  · rcases List.mem_cons.mp hm with hm | hm
    · cases hm
    · rcases List.mem_cons.mp hm with hm | hm
      · cases hm
        exact endQ v x H2 w1 w2 w3
      · rcases List.mem_cons.mp hm with hm | hm
        · cases hm
          exact endQ v x H2 w1 w2 w3
        · rcases List.mem_cons.mp hm with hm | hm
          · cases hm
            exact endQ v x H2 w1 w2 w3
          · exact nomatch hm
end Trunk
