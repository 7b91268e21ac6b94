/-! A row's slots get names. -/
def y_isN (w : Option sW) (k : Nat) : Bool := match w with
  | some (.inl f) => s_eqF f (s_nm k)
  | _ => false
def y_isW (w : Option sW) (lo hi : Int) : Bool := match w with
  | some (.inr ((l, h), none)) => s_ie l lo && s_ie h hi
  | _ => false
theorem y_isNS {w : Option sW} {k : Nat} (h : y_isN w k = true) : w = some (.inl (s_nm k)) := by
  unfold y_isN at h
  split at h
  · rw [s_eqF_eq h]
  · cases h
theorem y_isWS {w : Option sW} {lo hi : Int} (h : y_isW w lo hi = true) : w = some (wb lo hi) := by
  unfold y_isW at h
  split at h
  · rw [Bool.and_eq_true] at h
    rw [s_ie_iff.mp h.1, s_ie_iff.mp h.2]
    rfl
  · cases h
def y_pkB (N n q : Nat) (lo hi : Int) (fs : List sW) : Bool := (List.range n).all (fun j => (Nat.blt j q && y_isN (fs[j % fs.length]?) (N + j)) || y_isW (fs[j % fs.length]?) lo hi)
theorem y_pkH {N n q : Nat} {lo hi : Int} {fs : List sW} (h : y_pkB N n q lo hi fs = true) : ∀ j, j < n → (j < q ∧ fs[j % fs.length]? = some (.inl (s_nm (N + j)))) ∨ fs[j % fs.length]? = some (wb lo hi) := fun j hj => by
  have := List.all_eq_true.mp h j (List.mem_range.mpr hj)
  rw [Bool.or_eq_true, Bool.and_eq_true] at this
  rcases this with ⟨h1, h2⟩ | h1
  · exact Or.inl ⟨Nat.le_of_ble_eq_true h1, y_isNS h2⟩
  · exact Or.inr (y_isWS h1)
section Peek
variable {dC : Nat → ClassId} {dI : Nat → Nat → Nat} {dA : FieldType → ClassId} {ad : Nat → Nat} {Hb H0 H : Heap} {rv : List Int}
theorem y_peek {f : sG} {k n q N : Nat} {lo hi : Int} {fs' : List sW} {nL : Nat} {ls : Array Slot} {vs : List Value} {locs : List Loc} (hq : q ≤ n) (F : q_Fr dC dI dA rv ad Hb H0 nL f ls vs H locs) (hN : rv.length = N) (hk : s_hget f.2.2.2.2 k = some (vR .int n [wb lo hi] [])) (hp : 0 < fs'.length) (hfs : ∀ j, j < n → (j < q ∧ fs'[j % fs'.length]? = some (.inl (s_nm (N + j)))) ∨ fs'[j % fs'.length]? = some (wb lo hi)) :
    ∃ Y : List Int, Y.length = q ∧ q_Fr dC dI dA (rv ++ Y) ad Hb H0 nL (f.1, f.2.1, f.2.2.1, s_ex f.2.2.2.1 (List.replicate q (lo, hi)), s_hset f.2.2.2.2 k (vR .int n fs' [])) ls vs H locs := by
  obtain ⟨pc, l0, st, E, h⟩ := f
  obtain ⟨f1, f2, f3, f4, f5⟩ := F
  dsimp only at hk f1 f2 f3 f4 ⊢
  obtain ⟨n', g, c1, c2, c3, c4⟩ := f4.2.2.2.2.1 _ (s_hgetS hk)
  have en : n' = n := by
    have h1 : s_val rv (s_num (Int.ofNat n)) = some (n' : Int) := c2.1
    rw [s_numS] at h1
    have h1 : ((n : Nat) : Int) = (n' : Int) := Option.some.inj h1
    omega
  subst en
  have gb : ∀ j, j < n' → lo ≤ (g j).toInt ∧ (g j).toInt ≤ hi := fun j hj => by
    obtain ⟨w, w1, w2⟩ := c2.2.2.1 j hj
    have w1 : ([wb lo hi])[j % 1]? = some w := w1
    rw [Nat.mod_one] at w1
    cases w1
    exact ⟨w2.1, w2.2.1⟩
  have yl : ((List.range q).map (fun j => (g j).toInt)).length = q := by rw [List.length_map, List.length_range]
  have yg : ∀ j, j < q → ((List.range q).map (fun j => (g j).toInt))[j]? = some (g j).toInt := fun j hj => by rw [List.getElem?_map, List.getElem?_range hj]; rfl
  refine ⟨(List.range q).map (fun j => (g j).toInt), yl, f1.mono _, f2.mono _, s_exS f3 (by rw [yl, List.length_replicate]) (fun j i hj => ?_), ?_, f5⟩
  · rw [List.getElem?_replicate] at hj
    split at hj
    · rename_i hlt
      cases hj
      exact ⟨_, yg j hlt, gb j (by omega)⟩
    · cases hj
  · refine q_G.tell ((f4.mono _).env rfl) hk rfl ⟨n', g, c1.as rfl rfl rfl, ⟨s_val_mono _ c2.1, hp, fun j hj => ?_, fun p hp => (nomatch hp), fun p hp => nomatch hp⟩, c3, c4⟩
    rcases hfs j hj with ⟨h1, h2⟩ | h2
    · refine ⟨_, h2, ?_⟩
      show s_val _ (s_nm (N + j)) = _
      refine s_nmS ?_
      rw [List.getElem?_append_right (by omega), hN, Nat.add_sub_cancel_left]
      exact yg j h1
    · exact ⟨_, h2, (gb j hj).1, (gb j hj).2, fun f hf => by cases hf⟩
end Peek
def y_h58 : sH := [y_ob, (79, vR .int 3 y_r0 []), (97, vR .int 26 y_rL []), (98, vR .int 26 [wb (vM 2147483647) (vP 2147483647)] [])]
def y_B58 : List pI := (y_B31 ++ [(vP 0, vP 9)]) ++ List.replicate 26 (vP 0, vP 99)
def y_k270 : sK := (s_num (vP 20), [vr 74], (false, y_B58, [], []), y_h58, [(some (.inl (s_nm 84)), y_E [(vP 0, vP 26)] [], y_hB)])
def y_n247 : sN := (k_247.2.2.2.2.head?).getD (none, (false, [], [], []), [])
theorem y_w247 : s_okN 31 (some (.inl (s_nm 84))) (y_E [(vP 0, vP 26)] []) y_hB y_n247 = true := by decide +kernel
/-- a contract with what is known behind it -/
def q_KOKs (l : Launch) (dC : Nat → ClassId) (dI : Nat → Nat → Nat) (dA : FieldType → ClassId) (Hb : Heap) (ad : Nat → Nat) (S : List Int → List Int → Prop) (c : Nat) (C : sK) (D : Nat) : Prop :=
  ∀ (rw : List Int) (H : Heap) (vs : List Value), s_val rw C.1 = some (D : Int) → q_L rw ad C.2.1 vs → q_E rw C.2.2.1 → q_G dC dI dA rw ad Hb H C.2.2.1 C.2.2.2.1 H →
    Met l (mY c) (q_ws c) (q_rm D 0 0) (q_Pc dC dI dA Hb H vs) (fun _ _ oc t => ∃ v, oc = .returned v ∧ ∃ n ∈ C.2.2.2.2, ∃ x, S rw x ∧ q_ret (rw ++ x) ad n.1 v ∧ q_E (rw ++ x) n.2.1 ∧ q_G dC dI dA (rw ++ x) ad Hb H n.2.1 n.2.2 t.heap) 0 0 (fun q => Hb.size ≤ q)
section K247
variable {l : Launch} {dC : Nat → ClassId} {dI : Nat → Nat → Nat} {dA : FieldType → ClassId} {Hb : Heap} {ad : Nat → Nat}
theorem y_peekT {rv0 : List Int} {H0 H : Heap} {nL : Nat} {ls : Array Slot} {vs : List Value} {locs : List Loc} (hl : rv0.length = 58) (F : q_Fr dC dI dA rv0 ad Hb H0 nL (0, [(0, vr 74)], [], (false, y_B58, [], []), y_h58) ls vs H locs) : ∃ Y, q_Fr dC dI dA (rv0 ++ Y) ad Hb H0 nL (0, [(0, vr 74)], [], (false, y_B, [], []), y_hB) ls vs H locs := by
  obtain ⟨Y, -, F2⟩ := y_peek (k := 98) (n := 26) (q := 26) (N := 58) (lo := vM 2147483647) (hi := vP 2147483647) (fs' := y_rT) (Nat.le_refl _) F hl rfl (by decide) (y_pkH (by decide +kernel))
  refine ⟨Y, ?_⟩
  rw [y_Be]
  exact F2
theorem y_m270 {K : Nat} : q_KOKs l dC dI dA Hb ad (fun rv0 x => x.length = 27 ∧ y_S270 rv0 x) 270 y_k270 K := by
  intro rv0 H vs hdp hL hE hG
  have hlen : rv0.length = 58 := hE.1
  refine q_metW (k := 270) (by decide) (by decide +kernel) (by decide +kernel) hL hE hG (fun p e s m below meth c ls Cx hret hlocks F => ?_)
  obtain ⟨Y, F2⟩ := y_peekT hlen F
  exact y_b270 Cx hret hlocks hlen hdp F2 (fun v x H2 hx hS w1 w2 w3 t ht => ⟨v, rfl, _, List.mem_singleton.mpr rfl, x, ⟨hx, hS⟩, w1, w2, by rw [ht]; exact w3⟩)
theorem ko_247 {K : Nat} (ih : ∀ D, D < K → ∀ c, ∀ C ∈ tab c, q_KOK l dC dI dA Hb ad c C D) : q_KOK l dC dI dA Hb ad 270 k_247 K := by
  intro rw0 H vs hdp hL hE hG
  have hlen : rw0.length = 31 := hE.1
  refine q_metW (k := 270) (by decide) (by decide +kernel) (by decide +kernel) hL hE hG (fun p e s m below meth c ls Cx hret hlocks F => ?_)
  have F0' : q_Fr dC dI dA rw0 ad Hb H (mL 270) (0, [(0, vr 74)], [], (false, y_B31, [], []), [y_ob, (79, vR .int 3 [wb (vP 0) (vP 9)] []), (97, vR .int 26 [wb (vP 0) (vP 99)] []), (98, vR .int 26 [wb (vM 2147483647) (vP 2147483647)] [])]) ls [] H [] := F
  obtain ⟨Y1, l1, F1⟩ := y_peek (k := 79) (n := 3) (q := 1) (N := 31) (lo := vP 0) (hi := vP 9) (fs' := y_r0) (by omega) F0' hlen rfl (by decide) (y_pkH (by decide +kernel))
  obtain ⟨Y2, l2, F2⟩ := y_peek (k := 97) (n := 26) (q := 26) (N := 32) (lo := vP 0) (hi := vP 99) (fs' := y_rL) (Nat.le_refl _) F1 (by rw [List.length_append, hlen, l1]) rfl (by decide) (y_pkH (by decide +kernel))
  have hl58 : (rw0 ++ Y1 ++ Y2).length = 58 := by rw [List.length_append, List.length_append, hlen, l1, l2]
  obtain ⟨Y, F3⟩ := y_peekT (rv0 := rw0 ++ Y1 ++ Y2) hl58 F2
  refine y_b270 Cx hret hlocks hl58 (s_val_mono _ (s_val_mono _ hdp)) F3 (fun v x H2 hx hS w1 w2 w3 t ht => ?_)
  have a : rw0 ++ Y1 ++ Y2 ++ x = rw0 ++ (Y1 ++ Y2 ++ x) := by rw [List.append_assoc, List.append_assoc, List.append_assoc]
  rw [a] at w1 w2 w3
  obtain ⟨x2, z1, z2, z3⟩ := s_okNS (rv0 := rw0) hlen w2 w3 w1 y_w247
  exact ⟨v, rfl, s_nO y_n247, List.mem_singleton.mpr rfl, x2, rfl, z1, z2, by rw [ht]; exact z3⟩
end K247
