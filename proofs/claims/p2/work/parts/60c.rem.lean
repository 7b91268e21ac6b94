section Rem
variable {l : Launch} {dC : Nat → ClassId} {dI : Nat → Nat → Nat} {dA : FieldType → ClassId} {Hb : Heap} {ad : Nat → Nat}
set_option maxHeartbeats 4000000 in
theorem z_rem {tb : Nat → List sK} {C : sK} {q K : Nat} (hN : z_N C < 100) (h21 : 21 < z_N C) (hends : C.2.2.2.2 = [z_n C]) (hcat : s_cats C.2.1 ≤ mL 229) (hen : z_ok tb C q = true) (hck : ∀ r, r < 59 → z_ck tb C q r = true) (ih : ∀ D, D < K → ∀ c, ∀ C ∈ tb c, q_KOK l dC dI dA Hb ad c C D) : q_KOK l dC dI dA Hb ad 229 C K := by
  intro rv0 H0 vs hdp hL hE hG
  have hlen : rv0.length = z_N C := hE.1
  refine q_metW (k := 229) (by decide) (by decide +kernel) hcat hL hE hG (fun p e s m below meth c ls Cx hret hlocks F => ?_)
  have hdp2 : ∀ y, s_val (rv0 ++ y) C.1 = some (K : Int) := fun y => s_val_mono _ hdp
  have hX : q_XOKp l dC dI dA Hb ad K C.1 (fun _ => True) (s_X tb 8) := q_xokO (q_xok 8 K _ ih)
  have endQ : ∀ (v : Option Value) (x : List Int) (H2 : Heap), q_ret (rv0 ++ x) ad (z_n C).1 v → q_E (rv0 ++ x) (z_n C).2.1 → q_G dC dI dA (rv0 ++ x) ad Hb H0 (z_n C).2.1 (z_n C).2.2 H2 → ∀ t : State, t.heap = H2 → q_Qc dC dI dA rv0 ad Hb H0 (C.2.2.2.2.map s_nO) vs.toArray s (.returned v) t := fun v x H2 w1 w2 w3 t ht => ⟨v, rfl, s_nO (z_n C), by rw [hends]; exact List.mem_singleton.mpr rfl, x, rfl, w1, w2, by rw [ht]; exact w3⟩
  have bnd : ∀ (y : List Int) (r : Nat) (ls1 : Array Slot) (vs1 : List Value) (H1 : Heap) (locs1 : List Loc), q_Fr dC dI dA (rv0 ++ y) ad Hb H0 (mL 229) (z_H C q r) ls1 vs1 H1 locs1 → (rv0 ++ y).length = z_N C + 1 ∧ 0 ≤ y_gv (rv0 ++ y) (z_N C) ∧ y_gv (rv0 ++ y) (z_N C) ≤ (if r = 0 then 11 else 10) := fun y r ls1 vs1 H1 locs1 F1 => by
    have l1 : ((C.2.2.1.2.1.set 21 (vP 12, vP 12)) ++ [((vP 0, bif Nat.beq r 0 then vP 11 else vP 10) : pI)]).length = z_N C + 1 := by rw [List.length_append, List.length_set]; rfl
    have l2 : (C.2.2.1.2.1.set 21 (vP 12, vP 12)).length = z_N C := by rw [List.length_set]; rfl
    have hl : (rv0 ++ y).length = z_N C + 1 := F1.2.2.1.1.trans l1
    obtain ⟨u, u1, u2, u3⟩ := F1.2.2.1.2.1 (z_N C) (vP 0, bif Nat.beq r 0 then vP 11 else vP 10) (by
      show ((C.2.2.1.2.1.set 21 (vP 12, vP 12)) ++ [_])[z_N C]? = _
      rw [List.getElem?_append_right (by omega), l2, Nat.sub_self]
      rfl)
    rw [y_gvE u1]
    refine ⟨hl, u2, ?_⟩
    by_cases e : r = 0
    · subst e
      exact u3
    · have hb : Nat.beq r 0 = false := q_beqF e
      rw [hb] at u3
      rw [if_neg e]
      exact u3
  have hd : ∀ (M r : Nat), r < 59 → ∀ (y : List Int) (ls1 : Array Slot) (vs1 : List Value) (H1 : Heap) (locs1 : List Loc), q_Fr dC dI dA (rv0 ++ y) ad Hb H0 (mL 229) (z_H C q r) ls1 vs1 H1 locs1 → 59 * y_gv (rv0 ++ y) (z_N C) + r + M = 650 → W p l e (q_rm K 0 0) s m vs.toArray below meth c H1 locs1 0 0 (MQ below (q_Qc dC dI dA rv0 ad Hb H0 (C.2.2.2.2.map s_nO)) vs.toArray s 0 0 (fun q => Hb.size ≤ q)) (F0 m (z_H C q r).1 ls1 vs1) := by
    intro M
    induction M using Nat.strongRecOn with
    | ind M ihM =>
      intro r hr y ls1 vs1 H1 locs1 F1 hM
      obtain ⟨hl, -, -⟩ := bnd y r ls1 vs1 H1 locs1 F1
      refine q_segW Cx hret hlocks (fun _ _ _ => trivial) hX hlen (hdp2 _) trivial (hck r hr) F1 (fun T b ge ne hm hf y' ls3 vs3 H3 locs3 hnew F4 => ?_) (fun nn b ge ne hm hf v2 x H2 hnew w1 w2 w3 => ?_)
      · unfold z_al at hm
        rcases List.mem_cons.mp hm with hm | hm
        · cases hb : Nat.beq r 58 with
          | true =>
            rw [hb] at hm
            cases hm
            have er := Nat.eq_of_beq_eq_true hb
            obtain ⟨-, b1, b2⟩ := bnd y' 0 ls3 vs3 H3 locs3 F4
            have e1 := y_v1 (k := z_N C) (a := z_N C) (ca := 1) (z := vP 1) hnew (x_idR (n := z_N C) (j := 0) (by omega)) (by omega)
            have e1 : y_gv (rv0 ++ y') (z_N C) = 1 * y_gv (rv0 ++ y) (z_N C) + 1 := e1
            have b2 : y_gv (rv0 ++ y') (z_N C) ≤ 11 := b2
            exact ihM (M - 1) (by omega) 0 (by omega) y' ls3 vs3 H3 locs3 F4 (by omega)
          | false =>
            rw [hb] at hm
            cases hm
            have er := Nat.ne_of_beq_eq_false hb
            obtain ⟨-, b1, b2⟩ := bnd y' (r + 1) ls3 vs3 H3 locs3 F4
            have e1 : y_gv (rv0 ++ y') (z_N C) = y_gv (rv0 ++ y) (z_N C) := y_vn (j := z_N C) hnew (x_idS (by omega) (by omega)) (by omega)
            have b2 : y_gv (rv0 ++ y') (z_N C) ≤ 10 := by
              rw [if_neg (by omega)] at b2
              exact b2
            exact ihM (M - 1) (by omega) (r + 1) (by omega) y' ls3 vs3 H3 locs3 F4 (by omega)
        · cases hb : Nat.beq r 0 with
          | false => rw [hb] at hm; exact nomatch hm
          | true =>
            rw [hb] at hm
            rcases List.mem_cons.mp hm with hm | hm
            · cases hm
            · exact nomatch hm
      · unfold z_al at hm
        rcases List.mem_cons.mp hm with hm | hm
        · cases hb : Nat.beq r 58 with
          | true => rw [hb] at hm; cases hm
          | false => rw [hb] at hm; cases hm
        · cases hb : Nat.beq r 0 with
          | false => rw [hb] at hm; exact nomatch hm
          | true =>
            rw [hb] at hm
            rcases List.mem_cons.mp hm with hm | hm
            · cases hm
              exact endQ v2 x H2 w1 w2 w3
            · exact nomatch hm
  have F' : q_Fr dC dI dA (rv0 ++ []) ad Hb H0 (mL 229) (0, s_args 0 C.2.1, [], C.2.2.1, C.2.2.2.1) ls [] H0 [] := by rw [List.append_nil]; exact F
  refine q_segW Cx hret hlocks (fun _ _ _ => trivial) hX hlen (hdp2 _) trivial hen F' (fun T b ge ne hm hf y' ls2 vs2 H2 locs2 hnew F2 => ?_) (fun nn b ge ne hm hf v x H2 hnew w1 w2 w3 => ?_)
  · rcases List.mem_cons.mp hm with hm | hm
    · cases hm
      have e0 : y_gv (rv0 ++ y') (z_N C) = 0 := y_v0 (k := z_N C) hnew (x_idR (n := z_N C) (j := 0) (by omega))
      exact hd 650 0 (by omega) y' ls2 vs2 H2 locs2 F2 (by rw [e0]; rfl)
    · rcases List.mem_cons.mp hm with hm | hm
      · cases hm
      · exact nomatch hm
  · rcases List.mem_cons.mp hm with hm | hm
    · cases hm
    · rcases List.mem_cons.mp hm with hm | hm
      · cases hm
        exact endQ v x H2 w1 w2 w3
      · exact nomatch hm
theorem ko_167 {K : Nat} (ih : ∀ D, D < K → ∀ c, ∀ C ∈ tab c, q_KOK l dC dI dA Hb ad c C D) : q_KOK l dC dI dA Hb ad 229 k_167 K := z_rem (q := 75) (by decide +kernel) (by decide +kernel) rfl (by decide +kernel) z_o167 z_c167 ih
theorem ko_168 {K : Nat} (ih : ∀ D, D < K → ∀ c, ∀ C ∈ tab c, q_KOK l dC dI dA Hb ad c C D) : q_KOK l dC dI dA Hb ad 229 k_168 K := z_rem (q := 88) (by decide +kernel) (by decide +kernel) rfl (by decide +kernel) z_o168 z_c168 (q_ihY ih)
end Rem
