/-! A contract that fits: what its ends say to the caller. -/
section Use
variable {dC : Nat → ClassId} {dI : Nat → Nat → Nat} {dA : FieldType → ClassId} {ad : Nat → Nat} {Hb H0 H H1 : Heap} {rv rw x : List Int} {th : List sF} {E : sE} {h : sH}
theorem s_subIS : ∀ {o : sH}, s_subI h o = true → ∀ q ∈ o, ∃ y ∈ h, y.1 = q.1
  | [], _, q, hq => nomatch hq
  | q0 :: r, hs, q, hq => by
    simp only [s_subI, Bool.and_eq_true] at hs
    rcases List.mem_cons.mp hq with rfl | hq
    · have hs := hs.1
      split at hs
      · cases hs
      · rename_i c hc
        exact ⟨_, s_hgetS hc, rfl⟩
    · exact s_subIS hs.2 q hq
theorem s_hgetN : ∀ {o : sH} {k : Nat}, s_hget o k = none → ∀ q ∈ o, q.1 ≠ k
  | [], _, _, q, hq => nomatch hq
  | q0 :: r, k, hk, q, hq => by
    unfold s_hget at hk
    cases e : Nat.beq q0.1 k with
    | true => rw [e] at hk; cases hk
    | false =>
      rw [e] at hk
      rcases List.mem_cons.mp hq with rfl | hq
      · exact Nat.ne_of_beq_eq_false e
      · exact s_hgetN hk q hq
theorem s_sbHS {r : List Int} {o : sH} (ht : q_Th r th rw) (ho : ∀ y ∈ o, q_C dC dI dA rw ad Hb.size (ad y.1) H1 y.2) : ∀ {h h2 : sH}, s_sbH th o h = some h2 → (∀ y ∈ h, s_hget o y.1 = none → q_C dC dI dA r ad Hb.size (ad y.1) H1 y.2) → (∀ y ∈ h2, q_C dC dI dA r ad Hb.size (ad y.1) H1 y.2) ∧ (∀ y ∈ h2, (∃ c, s_hget o y.1 = some c ∧ s_cls y.2 = s_cls c) ∨ (s_hget o y.1 = none ∧ y ∈ h)) ∧ (∀ y ∈ h, ∃ z ∈ h2, z.1 = y.1)
  | [], h2, hs, _ => by cases hs; exact ⟨fun y hy => (nomatch hy), fun y hy => (nomatch hy), fun y hy => (nomatch hy)⟩
  | q :: h, h2, hs, hh => by
    unfold s_sbH at hs
    split at hs
    · cases hs
    · rename_i l hl
      obtain ⟨k1, k2, k3⟩ := s_sbHS ht ho hl (fun y hy => hh y (List.mem_cons_of_mem _ hy))
      have fin : ∀ c : sC, q_C dC dI dA r ad Hb.size (ad q.1) H1 c → ((∃ c1, s_hget o q.1 = some c1 ∧ s_cls c = s_cls c1) ∨ (s_hget o q.1 = none ∧ c = q.2)) → h2 = (q.1, c) :: l → (∀ y ∈ h2, q_C dC dI dA r ad Hb.size (ad y.1) H1 y.2) ∧ (∀ y ∈ h2, (∃ c, s_hget o y.1 = some c ∧ s_cls y.2 = s_cls c) ∨ (s_hget o y.1 = none ∧ y ∈ q :: h)) ∧ (∀ y ∈ q :: h, ∃ z ∈ h2, z.1 = y.1) := by
        intro c hc hor e
        subst e
        refine ⟨fun y hy => ?_, fun y hy => ?_, fun y hy => ?_⟩
        · rcases List.mem_cons.mp hy with rfl | hy
          · exact hc
          · exact k1 y hy
        · rcases List.mem_cons.mp hy with rfl | hy
          · rcases hor with hor | ⟨hor, rfl⟩
            · exact Or.inl hor
            · exact Or.inr ⟨hor, List.mem_cons_self⟩
          · rcases k2 y hy with z | ⟨z1, z2⟩
            · exact Or.inl z
            · exact Or.inr ⟨z1, List.mem_cons_of_mem _ z2⟩
        · rcases List.mem_cons.mp hy with rfl | hy
          · exact ⟨_, List.mem_cons_self, rfl⟩
          · obtain ⟨z, z1, z2⟩ := k3 y hy
            exact ⟨z, List.mem_cons_of_mem _ z1, z2⟩
      split at hs
      · rename_i hn
        cases hs
        exact fin q.2 (hh q List.mem_cons_self hn) (Or.inr ⟨hn, rfl⟩) rfl
      · rename_i c hc
        split at hs
        · cases hs
        · rename_i c2 hc2
          cases hs
          exact fin c2 (s_sbCS ht hc2 (ho _ (s_hgetS hc))) (Or.inl ⟨c, hc, s_sbCc hc2⟩) rfl
/-- an end of the contract, told to the caller -/
theorem s_endS {B0 : List pI} {n : sN} {oo : Option sO} {v : Option Value} (hE : q_E rv E) (hf : E.1 = false) (ht : q_Th rv th rw) (hG : q_G dC dI dA rv ad Hb H0 E h H) (hs : s_end E h th B0 n = some oo)
    (hr : q_ret (rw ++ x) ad n.1 v) (hE1 : q_E (rw ++ x) n.2.1) (hG1 : q_G dC dI dA (rw ++ x) ad Hb H n.2.1 n.2.2 H1) :
    ∃ o, oo = some o ∧ o.1 = 0 ∧ q_ret (rv ++ x) ad o.2.1 v ∧ q_E (rv ++ x) o.2.2.2.2.2.1 ∧ q_G dC dI dA (rv ++ x) ad Hb H0 o.2.2.2.2.2.1 o.2.2.2.2.2.2 H1 := by
  obtain ⟨ret, Eo, ho⟩ := n
  unfold s_end at hs
  dsimp only at hs hr hE1 hG1
  split at hs
  · cases hs
  · rename_i E2 hE2
    have hx : x.length = Eo.2.1.length - th.length := by
      have h1 := hE1.1
      rw [List.length_append] at h1
      have h2 := ht.1
      omega
    have ht2 := s_th2S (x := x) ht hE.1 hx
    have hxb : ∀ (k : Nat) (i : pI), (Eo.2.1.drop th.length)[k]? = some i → ∃ v, x[k]? = some v ∧ i.1 ≤ v ∧ v ≤ i.2 := by
      intro k i hk
      rw [List.getElem?_drop] at hk
      obtain ⟨w, w1, w2⟩ := hE1.2.1 _ i hk
      rw [List.getElem?_append_right (by have := ht.1; omega)] at w1
      exact ⟨w, by rw [← w1, ← ht.1, Nat.add_sub_cancel_left], w2⟩
    have e0 := s_exS hE (l := Eo.2.1.drop th.length) (by rw [List.length_drop]; exact hx) hxb
    obtain ⟨e1, f1⟩ := s_eBS (B0 := B0) (Bo := Eo.2.1) (th := th) e0 (fun k f j h1 h2 => by
      obtain ⟨w, w1, w2⟩ := ht.2 k f h1
      obtain ⟨u, u1, u2⟩ := hE1.2.1 k j h2
      rw [List.getElem?_append_left (List.getElem?_eq_some_iff.mp w1).1, w1] at u1
      cases u1
      exact ⟨w, s_val_mono x w2, u2⟩)
    obtain ⟨e2, f2⟩ := s_eCS ht2 e1 hE1.2.2.1 hE2
    have hfe : s_feB E th Eo.2.1 = true := s_feBS hE (fun k f j h1 h2 => by
      obtain ⟨w, w1, w2⟩ := ht.2 k f h1
      obtain ⟨u, u1, u2⟩ := hE1.2.1 k j h2
      rw [List.getElem?_append_left (List.getElem?_eq_some_iff.mp w1).1, w1] at u1
      cases u1
      exact ⟨w, w2, u2⟩)
    rw [s_goodS e2, hfe] at hs
    simp only [Bool.true_and] at hs
    cases hsub : (s_subI h ho && (!Eo.1 && s_prs ho)) with
    | false => rw [hsub] at hs; cases hs
    | true =>
      rw [hsub] at hs
      rw [Bool.and_eq_true, Bool.and_eq_true] at hsub
      simp only [cond_true] at hs
      split at hs
      · cases hs
      · rename_i E3 hE3
        obtain ⟨e3, f3⟩ := s_eNS ht2 e2 hE1.2.2.2 hE3
        split at hs
        · cases hs
        · rename_i h2 hh2
          have hsb := s_subIS hsub.1
          have hG' := hG1.2.2.2.2
          obtain ⟨k1, k2, k3⟩ := s_sbHS (Hb := Hb) ht2 hG'.1 hh2 (fun y hy hno => by
            have hc := hG.2.2.2.2.1 y hy
            refine (hc.mono x).kept (hG1.2.1 _ hc.lt (fun z hz e => ?_))
            obtain ⟨w, w1, w2⟩ := hsb z hz
            exact s_hgetN hno z hz (by rw [← w2]; exact hG.2.2.2.2.2.1 w w1 y hy (by rw [w2]; exact e)))
          have hEo : Eo.1 = false := by simpa using hsub.2.1
          have hpr := hsub.2.2
          unfold s_prs at hpr
          rw [Bool.and_eq_true] at hpr
          have way : ∀ i, q_isO h2 i → (s_hasI ho i = true ∧ q_isO ho i) ∨ (s_hasI ho i = false ∧ q_isO h i ∧ H1[ad i]? = H[ad i]?) := by
            intro i ⟨z, z1, z2, z3⟩
            have ei : z.1 = i := z2
            rcases k2 z z1 with ⟨c, c1, c2⟩ | ⟨c1, c2⟩
            · rw [ei] at c1
              refine Or.inl ⟨by unfold s_hasI; rw [c1], ⟨(i, c), s_hgetS c1, rfl, by rw [← c2]; exact z3⟩⟩
            · rw [ei] at c1
              refine Or.inr ⟨by unfold s_hasI; rw [c1], ⟨z, c2, z2, z3⟩, ?_⟩
              have hc := hG.2.2.2.2.1 z c2
              rw [z2] at hc
              refine hG1.2.1 _ hc.lt (fun w hw e => ?_)
              obtain ⟨w', w1, w2⟩ := hsb w hw
              refine s_hgetN c1 w hw ?_
              rw [← w2, ← ei]
              exact hG.2.2.2.2.2.1 w' w1 z c2 (by rw [w2, ei]; exact e)
          have two : ∀ i j, s_hasI ho i = s_hasI ho j → q_isO h2 i → q_isO h2 j → (q_isO ho i ∧ q_isO ho j) ∨ ((q_isO h i ∧ H1[ad i]? = H[ad i]?) ∧ q_isO h j ∧ H1[ad j]? = H[ad j]?) := by
            intro i j e hi hj
            rcases way i hi with ⟨a1, a2⟩ | ⟨a1, a2⟩ <;> rcases way j hj with ⟨b1, b2⟩ | ⟨b1, b2⟩
            · exact Or.inl ⟨a2, b2⟩
            · rw [a1, b1] at e; cases e
            · rw [a1, b1] at e; cases e
            · exact Or.inr ⟨a2, b2⟩
          have J1 := hG1.2.2.2.2.2.2 hEo
          have J0 := hG.2.2.2.2.2.2 hf
          have idh : ∀ y ∈ h2, ∃ z ∈ h, z.1 = y.1 := fun y hy => by
            rcases k2 y hy with ⟨c, c1, -⟩ | ⟨-, c2⟩
            · obtain ⟨w, w1, w2⟩ := hsb _ (s_hgetS c1)
              exact ⟨w, w1, w2⟩
            · exact ⟨y, c2, rfl⟩
          have inj2 : ∀ a ∈ h2, ∀ b ∈ h2, ad a.1 = ad b.1 → a.1 = b.1 := fun a ha b hb e => by
            obtain ⟨a', a1, a2⟩ := idh a ha
            obtain ⟨b', b1, b2⟩ := idh b hb
            rw [← a2, ← b2]
            exact hG.2.2.2.2.2.1 a' a1 b' b1 (by rw [a2, b2]; exact e)
          have fE : E3.1 = false := by rw [f3, f2, f1]; exact hf
          have hG3 : q_G dC dI dA (rv ++ x) ad Hb H0 E3 h2 H1 := by
            refine ⟨hG1.1, fun q hq hnm => ?_, ⟨Nat.le_trans hG.2.2.1.1 hG1.2.2.1.1, hG1.2.2.1.2⟩, (fun e => by rw [fE] at e; cases e), k1, inj2, fun _ => ⟨fun a b => ?_, fun a b => ?_, fun a => ?_⟩⟩
            · refine (hG1.2.1 q (by have := hG.2.2.1.1; omega) (fun z hz e => ?_)).trans (hG.2.1 q hq (fun z hz e => ?_))
              · obtain ⟨y, y1, y2⟩ := hsb z hz
                obtain ⟨w, w1, w2⟩ := k3 y y1
                exact hnm w w1 (by rw [w2, y2]; exact e)
              · obtain ⟨w, w1, w2⟩ := k3 z hz
                exact hnm w w1 (by rw [w2]; exact e)
            · rcases two 10 11 (s_bqS hpr.1) a b with ⟨p1, p2⟩ | ⟨⟨p1, p2⟩, p3, p4⟩
              · exact J1.1 p1 p2
              · exact (J0.1 p1 p3).kept p2 p4
            · rcases two 14 15 (s_bqS hpr.2) a b with ⟨p1, p2⟩ | ⟨⟨p1, p2⟩, p3, p4⟩
              · exact J1.2.1 p1 p2
              · exact (J0.2.1 p1 p3).kept p2 p4
            · rcases way 89 a with ⟨-, p1⟩ | ⟨-, p1, p2⟩
              · exact J1.2.2 p1
              · exact (J0.2.2 p1).kept p2
          split at hs
          · cases hs
            exact ⟨_, rfl, rfl, hr, e3, hG3⟩
          · rename_i a
            split at hs
            · cases hs
            · rename_i a2 ha2
              cases hs
              obtain ⟨w, w1, w2⟩ := hr
              exact ⟨_, rfl, rfl, ⟨w, w1, s_sbAS ht2 ha2 w2⟩, e3, hG3⟩
theorem s_endsS {B0 : List pI} {n : sN} {v : Option Value} (hE : q_E rv E) (hf : E.1 = false) (ht : q_Th rv th rw) (hG : q_G dC dI dA rv ad Hb H0 E h H)
    (hr : q_ret (rw ++ x) ad n.1 v) (hE1 : q_E (rw ++ x) n.2.1) (hG1 : q_G dC dI dA (rw ++ x) ad Hb H n.2.1 n.2.2 H1) :
    ∀ {ns : List sN} {os : List sO}, s_ends E h th B0 ns = some os → n ∈ ns → q_End dC dI dA rv ad Hb H0 os v H1
  | [], _, _, hm => nomatch hm
  | n0 :: ns, os, hs, hm => by
    unfold s_ends at hs
    split at hs
    · cases hs
    · rename_i oo hoo
      split at hs
      · cases hs
      · rename_i l hl
        cases hs
        rcases List.mem_cons.mp hm with rfl | hm
        · obtain ⟨o, rfl, z1, z2, z3, z4⟩ := s_endS hE hf ht hG hoo hr hE1 hG1
          exact ⟨o, List.mem_cons_self, x, z1, z2, z3, z4⟩
        · obtain ⟨o, z0, z⟩ := s_endsS hE hf ht hG hr hE1 hG1 hl hm
          refine ⟨o, ?_, z⟩
          cases oo with
          | none => exact z0
          | some o2 => exact List.mem_cons_of_mem _ z0
end Use
