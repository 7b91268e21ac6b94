/-! findTaken: its body, with what it finds. -/
section Taken2
variable {rv rw : List Int} {E : sE}
theorem y_con {cs : List (sT × Int)} (h : q_E rv E) (hc : ∀ q ∈ cs, ∃ v, s_ev rv q.1 = some v ∧ q.2 ≤ v) : q_E rv (E.1, E.2.1, cs, E.2.2.2) := ⟨h.1, h.2.1, hc, h.2.2.2⟩
theorem y_call269 {RV : List Int} {i w : Nat} (hp : ∃ x, rv = RV ++ x) (hl : 84 ≤ RV.length) (hw : w < RV.length) (hi : i ≤ 26) (hn : y_gv RV 25 ≤ 26) (h : y_gv RV w = y_want (y_Lf RV) (y_Tf RV) (y_gv RV 31) (y_gv RV 25) (i : Int)) (ht : q_Th rv (y_id 84 ++ [s_num (vP i), s_nm w]) rw) : y_P269 rw := by
  obtain ⟨x, rfl⟩ := hp
  have hq := y_newS ht
  have e0 : ∀ k, k < 84 → y_gv rw k = y_gv RV k := fun k hk => y_vn hq (y_idL hk (by omega)) (by omega)
  have e1 : y_gv rw 84 = (i : Int) := y_v0 hq (y_idR (n := 84) (j := 0) (by omega))
  have e2 : y_gv rw 85 = y_gv RV w := y_vn (j := w) hq (y_idR (n := 84) (j := 1) (by omega)) hw
  unfold y_P269
  rw [e0 31 (by omega), e0 25 (by omega), e1, e2, h]
  exact (y_wantE (fun k hk => e0 (32 + k) (by omega)) (fun j hj => e0 (58 + j) (by omega))).symm
end Taken2
section Taken3
variable {l : Launch} {dC : Nat → ClassId} {dI : Nat → Nat → Nat} {dA : FieldType → ClassId} {Hb : Heap} {ad : Nat → Nat}
theorem y_Bn : y_B.length = 84 := rfl
/-- at the head of the for, at the head of the while -/
def y_Jf (rv0 : List Int) (i : Nat) (r : List Int) : Prop := (i : Int) ≤ y_gv r 84 ∧ y_want (y_Lf rv0) (y_Tf r) (y_gv rv0 31) (y_gv rv0 25) i ≤ y_gv r 84 - i ∧ ∀ v, y_A (y_Lf rv0) (y_Tf r) (y_gv rv0 31) (y_gv rv0 25) i v → y_gv r 85 ≤ v + y_gv rv0 31
def y_Jw (rv0 : List Int) (i : Nat) (r : List Int) : Prop := (i : Int) < y_gv r 84 ∧ y_want (y_Lf rv0) (y_Tf r) (y_gv rv0 31) (y_gv rv0 25) i ≤ y_gv r 84 - i ∧ ∀ v, y_A (y_Lf rv0) (y_Tf r) (y_gv rv0 31) (y_gv rv0 25) i v → y_Tf r i ≤ v + y_gv rv0 31
def y_S270 (rv0 x : List Int) : Prop := ∀ k : Nat, (k : Int) < y_gv rv0 25 → y_srv (y_Tf (rv0 ++ x)) (y_gv rv0 31) (y_gv (rv0 ++ x) 84) (y_Lf rv0 k)
set_option maxHeartbeats 8000000 in
theorem y_b270 {p : Program} {e : Env} {s : State} {m : MethodId} {below : List Frame} {meth : Method} {c : Code} {K : Nat} {vs : List Value} {Qc : Array Value → State → Outcome → State → Prop} (Cx : q_Ctx p (q_rm K 0 0) s m vs.toArray meth c dC dI dA Hb 270) (hret : meth.sig.returnType = mR 270) (hlocks : meth.locks = false) {rv0 Y : List Int} (hlen : rv0.length = 58) (hdp : s_val rv0 (s_num (vP 20)) = some (K : Int)) {H0 : Heap} {ls : Array Slot} (F : q_Fr dC dI dA (rv0 ++ Y) ad Hb H0 (mL 270) (0, [(0, vr 74)], [], (false, y_B, [], []), y_hB) ls [] H0 [])
    (hQ : ∀ (v : Option Value) (x : List Int) (H2 : Heap), x.length = 27 → y_S270 rv0 x → q_ret (rv0 ++ x) ad (some (.inl (s_nm 84))) v → q_E (rv0 ++ x) (y_E [(vP 0, vP 26)] []) → q_G dC dI dA (rv0 ++ x) ad Hb H0 (y_E [(vP 0, vP 26)] []) y_hB H2 → ∀ t : State, t.heap = H2 → Qc vs.toArray s (.returned v) t) :
    W p l e (q_rm K 0 0) s m vs.toArray below meth c H0 [] 0 0 (MQ below Qc vs.toArray s 0 0 (fun q => Hb.size ≤ q)) (F0 m 0 ls []) := by
  have hdp2 : ∀ y, s_val (rv0 ++ y) (s_num (vP 20)) = some (K : Int) := fun y => s_val_mono _ hdp
  have bd : ∀ k i, k < 58 → y_B[k]? = some i → i.1 ≤ y_gv rv0 k ∧ y_gv rv0 k ≤ i.2 := fun k i hk hi => by
    obtain ⟨v, v1, v2, v3⟩ := F.2.2.1.2.1 k i hi
    rw [List.getElem?_append_left (by omega)] at v1
    rw [y_gvE v1]
    exact ⟨v2, v3⟩
  have n26 : 0 ≤ y_gv rv0 25 ∧ y_gv rv0 25 ≤ 26 := bd 25 (vP 0, vP 26) (by omega) rfl
  have m9 : 0 ≤ y_gv rv0 31 ∧ y_gv rv0 31 ≤ 9 := bd 31 (vP 0, vP 9) (by omega) rfl
  have Bl : ∀ k, k < 26 → y_B[32 + k]? = some (vP 0, vP 99) := by decide +kernel
  have hL : ∀ k : Nat, (k : Int) < y_gv rv0 25 → 0 ≤ y_Lf rv0 k ∧ y_Lf rv0 k ≤ 99 := fun k hk => bd (32 + k) (vP 0, vP 99) (by omega) (Bl k (by omega))
  have gb : ∀ (y : List Int) (k : Nat), k < 58 → y_gv (rv0 ++ y) k = y_gv rv0 k := fun y k hk => y_gvA _ (by omega)
  -- wanting, where it is called
  have hX : ∀ (RV : List Int) (i w : Nat), (∃ y, RV = rv0 ++ y) → 84 ≤ RV.length → w < RV.length → i ≤ 26 → y_gv RV w = y_want (y_Lf rv0) (y_Tf RV) (y_gv rv0 31) (y_gv rv0 25) (i : Int) → q_XOKp l dC dI dA Hb ad K (s_num (vP 20)) (fun rv => ∃ x, rv = RV ++ x) (y_X0 i w) := by
    intro RV i w ⟨y, hy⟩ h1 h2 h3 h4
    refine q_xokP (P := y_P269) (y_xok K _) (fun D _ => y_m269) (fun rv rw hp ht => ?_)
    refine y_call269 hp h1 h2 h3 ?_ ?_ ht
    · rw [hy, gb y 25 (by omega)]
      exact n26.2
    · rw [h4]
      have e31 : y_gv RV 31 = y_gv rv0 31 := by rw [hy]; exact gb y 31 (by omega)
      have e25 : y_gv RV 25 = y_gv rv0 25 := by rw [hy]; exact gb y 25 (by omega)
      rw [e31, e25]
      exact y_wantE (fun k hk => by
        show y_gv rv0 (32 + k) = y_gv RV (32 + k)
        rw [hy]
        exact (gb y (32 + k) (by omega)).symm) (fun j _ => rfl)
  have hPP : ∀ (RV rv x : List Int), (∃ z, rv = RV ++ z) → ∃ z, rv ++ x = RV ++ z := fun RV rv x ⟨z, e⟩ => ⟨z ++ x, by rw [e, List.append_assoc]⟩
  have hXO : q_XOKp l dC dI dA Hb ad K (s_num (vP 20)) (fun _ => True) y_X := q_xokO (y_xok K _)
  have ylen : ∀ (y : List Int) (N : Nat), (rv0 ++ y).length = 58 + N → y.length = N := fun y N h => by rw [List.length_append, hlen] at h; omega
  -- the while
  have hdW : ∀ (i : Nat), i < 26 → (∀ (y : List Int) (ls1 : Array Slot) (vs1 : List Value) (H1 : Heap) (locs1 : List Loc), q_Fr dC dI dA (rv0 ++ y) ad Hb H0 (mL 270) (y_T270f (i + 1)) ls1 vs1 H1 locs1 → y_Jf rv0 (i + 1) (rv0 ++ y) → W p l e (q_rm K 0 0) s m vs.toArray below meth c H1 locs1 0 0 (MQ below Qc vs.toArray s 0 0 (fun q => Hb.size ≤ q)) (F0 m (y_T270f (i + 1)).1 ls1 vs1)) →
      ∀ (d : Nat) (y : List Int) (ls1 : Array Slot) (vs1 : List Value) (H1 : Heap) (locs1 : List Loc), q_Fr dC dI dA (rv0 ++ y) ad Hb H0 (mL 270) (y_T270w i) ls1 vs1 H1 locs1 → y_Jw rv0 i (rv0 ++ y) → 108 - y_Tf (rv0 ++ y) i ≤ (d : Int) → W p l e (q_rm K 0 0) s m vs.toArray below meth c H1 locs1 0 0 (MQ below Qc vs.toArray s 0 0 (fun q => Hb.size ≤ q)) (F0 m (y_T270w i).1 ls1 vs1) := by
    intro i hi nxt d
    have hck := y_d270 i hi
    induction d using Nat.strongRecOn with
    | ind d ih =>
      intro y ls1 vs1 H1 locs1 F1 J hd
      have yl : y.length = 28 := ylen y 28 (by
        have := F1.2.2.1.1
        have e2 : (y_Bw i).length = 86 := by unfold y_Bw; rw [List.length_append, List.length_set, y_Bn]; rfl
        exact this.trans e2)
      generalize hg : y_want (y_Lf rv0) (y_Tf (rv0 ++ y)) (y_gv rv0 31) (y_gv rv0 25) ((i : Int) + 1) = g
      have gB := y_wantB (y_Lf rv0) (y_Tf (rv0 ++ y)) (y_gv rv0 31) (y_gv rv0 25) ((i : Int) + 1)
      rw [hg] at gB
      have F2 := y_ghost (i := (vP 0, vP 100)) (z := g) F1 gB.1 gB.2
      rw [List.append_assoc] at F2
      generalize hRV : rv0 ++ (y ++ [g]) = RV at F2
      have rl : RV.length = 87 := by rw [← hRV, List.length_append, List.length_append, hlen, yl]; rfl
      have gy : ∀ k, k < 86 → y_gv RV k = y_gv (rv0 ++ y) k := fun k hk => by rw [← hRV, ← List.append_assoc]; exact y_gvA _ (by rw [List.length_append]; omega)
      have g86 : y_gv RV 86 = g := by
        rw [← hRV, ← List.append_assoc]
        refine y_gvE ?_
        rw [List.getElem?_append_right (by rw [List.length_append]; omega), List.length_append, hlen, yl]
        rfl
      have hXi : q_XOKp l dC dI dA Hb ad K (s_num (vP 20)) (fun rv => ∃ x, rv = RV ++ x) (y_X0 (i + 1) 86) := hX RV (i + 1) 86 ⟨_, hRV.symm⟩ (by omega) (by omega) (by omega) (by
        rw [g86, ← hg]
        have e1 : ((i + 1 : Nat) : Int) = (i : Int) + 1 := by omega
        rw [e1]
        exact (y_wantE (fun _ _ => rfl) (fun j hj => gy (58 + j) (by omega))).symm)
      have hPV : ∃ z, rv0 ++ (y ++ [g]) = RV ++ z := ⟨[], by rw [hRV, List.append_nil]⟩
      have e84 : y_gv RV 84 = y_gv (rv0 ++ y) 84 := gy 84 (by omega)
      by_cases hc : y_gv (rv0 ++ y) 84 - i ≤ g
      · -- it goes on
        obtain ⟨s1, s2⟩ := y_stop (T := y_Tf (rv0 ++ y)) (i := i) m9 hL J.1 J.2.1 J.2.2 (by rw [hg]; exact hc)
        have F3 : q_Fr dC dI dA (rv0 ++ (y ++ [g])) ad Hb H0 (mL 270) (y_T270h i) ls1 vs1 H1 locs1 := by
          rw [hRV]
          refine ⟨F2.1, F2.2.1, y_con F2.2.2.1 (fun q hq => ?_), F2.2.2.2.1.env rfl, F2.2.2.2.2⟩
          rcases List.mem_cons.mp hq with rfl | hq
          · refine ⟨_, y_ev (y_b2 (by omega) (by omega)), ?_⟩
            show -((i : Nat) : Int) ≤ -1 * y_gv RV 84 + (1 * y_gv RV 86 + 0)
            rw [e84, g86]
            omega
          · rcases List.mem_cons.mp hq with rfl | hq
            · refine ⟨_, y_ev (y_b1 (by omega)), ?_⟩
              show (-107 : Int) ≤ -1 * y_gv RV (58 + i) + 0
              rw [gy (58 + i) (by omega)]
              have s1 : y_gv (rv0 ++ y) (58 + i) ≤ 107 := s1
              omega
            · exact nomatch hq
        refine q_segW (f := y_T270h i) Cx hret hlocks (hPP RV) hXi hlen (hdp2 _) hPV hck.1 F3 (fun T b ge ne hm hf y' ls3 vs3 H3 locs3 hnew F4 => ?_) (fun nn b ge ne hm hf v2 x H2 hnew w1 w2 w3 => ?_)
        · rcases List.mem_cons.mp hm with hm | hm
          · cases hm
            rw [hRV] at hnew
            have eo : ∀ k, k < 86 → k ≠ 58 + i → y_gv (rv0 ++ y') k = y_gv (rv0 ++ y) k := fun k hk hne => by
              rw [y_vn (j := k) hnew (by rw [List.getElem?_set_ne (by omega)]; exact y_idS hk (by omega)) (by omega), gy k hk]
            have ei : y_Tf (rv0 ++ y') i = y_Tf (rv0 ++ y) i + 1 := by
              have := y_v1 (k := 58 + i) (a := 58 + i) (ca := 1) (z := vP 1) hnew (List.getElem?_set_self (by rw [y_idN (by omega)]; omega)) (by omega)
              rw [gy (58 + i) (by omega)] at this
              have this : y_gv (rv0 ++ y') (58 + i) = 1 * y_gv (rv0 ++ y) (58 + i) + 1 := this
              show y_gv (rv0 ++ y') (58 + i) = y_gv (rv0 ++ y) (58 + i) + 1
              omega
            have ag : ∀ j : Nat, (j : Int) < (i : Int) → y_Tf (rv0 ++ y') j = y_Tf (rv0 ++ y) j := fun j hj => eo (58 + j) (by omega) (by omega)
            have e4 : y_gv (rv0 ++ y') 84 = y_gv (rv0 ++ y) 84 := eo 84 (by omega) (by omega)
            have T108 : y_Tf (rv0 ++ y) i ≤ 107 := s1
            refine ih (d - 1) (by omega) y' ls3 vs3 H3 locs3 F4 ⟨by rw [e4]; exact J.1, by rw [e4, y_wantE (fun _ _ => rfl) ag]; exact J.2.1, fun v hv => ?_⟩ (by rw [ei]; omega)
            rw [ei]
            exact s2 v ((y_AE (fun _ _ => rfl) ag v).mp hv)
          · exact nomatch hm
        · rcases List.mem_cons.mp hm with hm | hm
          · cases hm
          · exact nomatch hm
      · -- it ends
        have F3 : q_Fr dC dI dA (rv0 ++ (y ++ [g])) ad Hb H0 (mL 270) (y_T270l i) ls1 vs1 H1 locs1 := by
          rw [hRV]
          refine ⟨F2.1, F2.2.1, y_con F2.2.2.1 (fun q hq => ?_), F2.2.2.2.1.env rfl, F2.2.2.2.2⟩
          rcases List.mem_cons.mp hq with rfl | hq
          · refine ⟨_, y_ev (y_b2 (by omega) (by omega)), ?_⟩
            show ((i + 1 : Nat) : Int) ≤ 1 * y_gv RV 84 + (-1 * y_gv RV 86 + 0)
            rw [e84, g86]
            omega
          · exact nomatch hq
        refine q_segW (f := y_T270l i) Cx hret hlocks (hPP RV) hXi hlen (hdp2 _) hPV hck.2 F3 (fun T b ge ne hm hf y' ls3 vs3 H3 locs3 hnew F4 => ?_) (fun nn b ge ne hm hf v2 x H2 hnew w1 w2 w3 => ?_)
        · rcases List.mem_cons.mp hm with hm | hm
          · cases hm
            rw [hRV] at hnew
            have eo : ∀ k, k < 85 → y_gv (rv0 ++ y') k = y_gv (rv0 ++ y) k := fun k hk => by
              rw [y_vn (j := k) hnew (y_idL hk (by omega)) (by omega), gy k (by omega)]
            have ea : y_gv (rv0 ++ y') 85 = y_Tf (rv0 ++ y) i + 1 := by
              have := y_v1 (k := 85) (a := 58 + i) (ca := 1) (z := vP 1) hnew (y_idR (n := 85) (j := 0) (by omega)) (by omega)
              rw [gy (58 + i) (by omega)] at this
              have this : y_gv (rv0 ++ y') 85 = 1 * y_gv (rv0 ++ y) (58 + i) + 1 := this
              show y_gv (rv0 ++ y') 85 = y_gv (rv0 ++ y) (58 + i) + 1
              omega
            have ag : ∀ j : Nat, (j : Int) < (i : Int) + 1 → y_Tf (rv0 ++ y') j = y_Tf (rv0 ++ y) j := fun j hj => eo (58 + j) (by omega)
            have e4 : y_gv (rv0 ++ y') 84 = y_gv (rv0 ++ y) 84 := eo 84 (by omega)
            have e1 : ((i + 1 : Nat) : Int) = (i : Int) + 1 := by omega
            have J1 := J.1
            refine nxt y' ls3 vs3 H3 locs3 F4 ⟨by rw [e4]; omega, ?_, fun v hv => ?_⟩
            · rw [e4, e1, y_wantE (fun _ _ => rfl) ag, hg]
              omega
            · rw [e1] at hv
              rw [ea]
              exact y_next J.2.2 m9.1 v ((y_AE (fun _ _ => rfl) ag v).mp hv)
          · exact nomatch hm
        · rcases List.mem_cons.mp hm with hm | hm
          · cases hm
          · exact nomatch hm
  -- the for
  have hdF : ∀ (n i : Nat), i + n = 26 → ∀ (y : List Int) (ls1 : Array Slot) (vs1 : List Value) (H1 : Heap) (locs1 : List Loc), q_Fr dC dI dA (rv0 ++ y) ad Hb H0 (mL 270) (y_T270f i) ls1 vs1 H1 locs1 → y_Jf rv0 i (rv0 ++ y) → W p l e (q_rm K 0 0) s m vs.toArray below meth c H1 locs1 0 0 (MQ below Qc vs.toArray s 0 0 (fun q => Hb.size ≤ q)) (F0 m (y_T270f i).1 ls1 vs1) := by
    intro n
    induction n using Nat.strongRecOn with
    | ind n ih =>
      intro i hi y ls1 vs1 H1 locs1 F1 J
      have yl : y.length = 28 := ylen y 28 F1.2.2.1.1
      have hl86 : (rv0 ++ y).length = 86 := F1.2.2.1.1
      have hck := y_c270 i (by omega)
      have m26 : y_gv (rv0 ++ y) 84 ≤ 26 := by
        obtain ⟨u, u1, u2, u3⟩ := F1.2.2.1.2.1 84 (vP 0, vP 26) rfl
        rw [y_gvE u1]
        exact u3
      refine q_segW Cx hret hlocks (fun _ _ _ => trivial) hXO hlen (hdp2 _) trivial hck F1 (fun T b ge ne hm hf y' ls3 vs3 H3 locs3 hnew F4 => ?_) (fun nn b ge ne hm hf v2 x H2 hnew w1 w2 w3 => ?_)
      · unfold y_a270 at hm
        rcases List.mem_cons.mp hm with hm | hm
        · cases hm
        · cases hb : Nat.blt i 26 with
          | false => rw [hb] at hm; exact nomatch hm
          | true =>
            have hi2 : i < 26 := Nat.le_of_ble_eq_true hb
            rw [hb] at hm
            simp only [cond_true] at hm
            rcases List.mem_cons.mp hm with hm | hm
            · cases hm
              have g1 := y_g1 hf (List.Mem.head _) (by omega)
              have g1 : ((i + 1 : Nat) : Int) ≤ 1 * y_gv (rv0 ++ y) 84 + 0 := g1
              have eo : ∀ k, k < 86 → k ≠ 58 + i → y_gv (rv0 ++ y') k = y_gv (rv0 ++ y) k := fun k hk hne => y_vn (j := k) hnew (by rw [List.getElem?_set_ne (by omega)]; exact y_idS hk (by omega)) (by omega)
              have ei : y_Tf (rv0 ++ y') i = y_gv (rv0 ++ y) 85 := y_vn (k := 58 + i) (j := 85) hnew (List.getElem?_set_self (by rw [y_idN (by omega)]; omega)) (by omega)
              have ag : ∀ j : Nat, (j : Int) < (i : Int) → y_Tf (rv0 ++ y') j = y_Tf (rv0 ++ y) j := fun j hj => eo (58 + j) (by omega) (by omega)
              have e4 : y_gv (rv0 ++ y') 84 = y_gv (rv0 ++ y) 84 := eo 84 (by omega) (by omega)
              have t0 : 0 ≤ y_Tf (rv0 ++ y') i := by
                rw [ei]
                obtain ⟨u, u1, u2, u3⟩ := F1.2.2.1.2.1 85 (vP 0, vP (109 + i)) rfl
                rw [y_gvE u1]
                exact u2
              refine hdW i hi2 (ih (n - 1) (by omega) (i + 1) (by omega)) 108 y' ls3 vs3 H3 locs3 F4 ⟨by rw [e4]; omega, by rw [e4, y_wantE (fun _ _ => rfl) ag]; exact J.2.1, fun v hv => ?_⟩ (by omega)
              rw [ei]
              exact J.2.2 v ((y_AE (fun _ _ => rfl) ag v).mp hv)
            · exact nomatch hm
      · unfold y_a270 at hm
        rcases List.mem_cons.mp hm with hm | hm
        · cases hm
          have g1 := y_g1 hf (List.Mem.head _) (by omega)
          have g1 : -((i : Nat) : Int) ≤ -1 * y_gv (rv0 ++ y) 84 + 0 := g1
          have eo : ∀ k, k < 85 → y_gv (rv0 ++ x) k = y_gv (rv0 ++ y) k := fun k hk => y_vn (j := k) hnew (y_idS hk (by omega)) (by omega)
          have J1 := J.1
          have J2 := J.2.1
          have em : y_gv (rv0 ++ y) 84 = (i : Int) := by omega
          refine hQ v2 x H2 (ylen x 27 w2.1) (fun k hk => ?_) w1 w2 w3
          have hdn := y_done (T := y_Tf (rv0 ++ y)) (q := (i : Int)) m9.1 hL (by omega) k hk
          rw [eo 84 (by omega), em]
          exact (y_srvE (fun j hj => eo (58 + j) (by omega)) _).mpr hdn
        · cases hb : Nat.blt i 26 with
          | false => rw [hb] at hm; exact nomatch hm
          | true =>
            rw [hb] at hm
            simp only [cond_true] at hm
            rcases List.mem_cons.mp hm with hm | hm
            · cases hm
            · exact nomatch hm
  -- the entry
  have yl : Y.length = 26 := ylen Y 26 F.2.2.1.1
  generalize hg : y_want (y_Lf rv0) (y_Tf (rv0 ++ Y)) (y_gv rv0 31) (y_gv rv0 25) ((0 : Nat) : Int) = g
  have gB := y_wantB (y_Lf rv0) (y_Tf (rv0 ++ Y)) (y_gv rv0 31) (y_gv rv0 25) ((0 : Nat) : Int)
  have gN := y_wantN (y_Lf rv0) (y_Tf (rv0 ++ Y)) (y_gv rv0 31) ((0 : Nat) : Int) n26.1
  rw [hg] at gB gN
  have F2 := y_ghost (i := (vP 0, vP 26)) (z := g) F gB.1 (by show g ≤ 26; omega)
  rw [List.append_assoc] at F2
  generalize hRV : rv0 ++ (Y ++ [g]) = RV at F2
  have rl : RV.length = 85 := by rw [← hRV, List.length_append, List.length_append, hlen, yl]; rfl
  have gy : ∀ k, k < 84 → y_gv RV k = y_gv (rv0 ++ Y) k := fun k hk => by rw [← hRV, ← List.append_assoc]; exact y_gvA _ (by rw [List.length_append]; omega)
  have g84 : y_gv RV 84 = g := by
    rw [← hRV, ← List.append_assoc]
    refine y_gvE ?_
    rw [List.getElem?_append_right (by rw [List.length_append]; omega), List.length_append, hlen, yl]
    rfl
  have hXi : q_XOKp l dC dI dA Hb ad K (s_num (vP 20)) (fun rv => ∃ x, rv = RV ++ x) (y_X0 0 84) := hX RV 0 84 ⟨_, hRV.symm⟩ (by omega) (by omega) (by omega) (by
    rw [g84, ← hg]
    exact (y_wantE (fun _ _ => rfl) (fun j hj => by omega)).symm)
  have hPV : ∃ z, rv0 ++ (Y ++ [g]) = RV ++ z := ⟨[], by rw [hRV, List.append_nil]⟩
  have F3 : q_Fr dC dI dA (rv0 ++ (Y ++ [g])) ad Hb H0 (mL 270) y_T270e ls [] H0 [] := by rw [hRV]; exact F2
  refine q_segW (f := y_T270e) Cx hret hlocks (hPP RV) hXi hlen (hdp2 _) hPV y_o270 F3 (fun T b ge ne hm hf y' ls3 vs3 H3 locs3 hnew F4 => ?_) (fun nn b ge ne hm hf v2 x H2 hnew w1 w2 w3 => ?_)
  · rcases List.mem_cons.mp hm with hm | hm
    · cases hm
      rw [hRV] at hnew
      have e4 : y_gv (rv0 ++ y') 84 = g := (y_vn (j := 84) hnew (y_idL (by omega) (by omega)) (by omega)).trans g84
      have e5 : y_gv (rv0 ++ y') 85 = 0 := y_v0 hnew (y_idR (n := 85) (j := 0) (by omega))
      refine hdF 26 0 rfl y' ls3 vs3 H3 locs3 F4 ⟨by rw [e4]; exact gB.1, ?_, fun v hv => ?_⟩
      · rw [e4, ← hg]
        have := y_wantE (L := y_Lf rv0) (L' := y_Lf rv0) (T := y_Tf (rv0 ++ Y)) (T' := y_Tf (rv0 ++ y')) (m := y_gv rv0 31) (n := y_gv rv0 25) (q := ((0 : Nat) : Int)) (fun _ _ => rfl) (fun j hj => by omega)
        rw [this]
        omega
      · obtain ⟨k, k1, k2⟩ := hv.1
        have := hL k k1
        rw [e5]
        omega
    · exact nomatch hm
  · rcases List.mem_cons.mp hm with hm | hm
    · cases hm
    · exact nomatch hm
end Taken3
