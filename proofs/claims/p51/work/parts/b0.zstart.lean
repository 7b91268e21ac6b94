/-! The law's start: the first table. -/
noncomputable def zini (c j : Nat) : Int := bif Nat.beq c 46 then -1 else bif Nat.beq c 24 || Nat.beq c 79 then (bif Nat.beq j 0 then 3 else bif Nat.beq j 1 then 2 else bif Nat.beq j 2 then 1 else 0) else 0
noncomputable def zm0 (L : Int) (xs : Nat → Int) (G : Nat → Nat → Int) : zM := fun c j => bif Nat.beq c 0 then xs j else bif Nat.beq c 110 then (bif Nat.beq j 0 then L else 0) else match zkd c with
  | some (.inr (.inl _)) => G c j
  | _ => zini c j
noncomputable def zone (w : sW) (v : Int) : Bool := match w with
  | .inl f => s_nil f.1 && s_ie f.2 v
  | _ => false
noncomputable def zpat (ws : List sW) (c n : Nat) : Bool := match ws with
  | [] => false
  | [w] => zone w (zini c 0) && (!(Nat.beq c 24) && !(Nat.beq c 79))
  | ws => Nat.beq ws.length n && (List.range n).all (fun j => match ws[j]? with
    | some w => zone w (zini c j)
    | none => false)
noncomputable def zty : FieldType → FieldType → Bool
  | .int, .int => true
  | .byte, .byte => true
  | .boolean, .boolean => true
  | .char, .char => true
  | _, _ => false
noncomputable def zsame : List (Option Nat) → List Nat → Bool
  | [], [] => true
  | some a :: r, b :: q => Nat.beq a b && zsame r q
  | _, _ => false
noncomputable def zfa (a : sA) (c k : Nat) : Bool := bif Nat.beq (z_fk c k) 0 then (match a with
  | .inl f => s_nil f.1 && s_ie f.2 (zini c k)
  | _ => false) else bif Nat.beq (z_fk c k) 999 then (match a with
  | .inr (.inl none) => s_ie (zini c k) 0
  | _ => false) else (match a with
  | .inr (.inl (some q)) => Nat.beq q (z_fk c k)
  | _ => false)
noncomputable def zkc (o : Option sC) (c : Nat) (κ : zK) : Bool := match κ with
  | .inl (ty, n) => (match o with
    | some (.inl ro) => zty ro.1 ty && (s_nil ro.2.1.1 && (s_ie ro.2.1.2 (n : Int) && zpat ro.2.2.1 c n))
    | _ => false)
  | .inr (.inl n) => (match o with
    | some (.inr (.inl n2)) => Nat.beq n2 n
    | _ => false)
  | .inr (.inr (.inl cs)) => (match o with
    | some (.inr (.inr (.inl (n, ds)))) => Nat.beq n cs.length && zsame ds cs
    | _ => false)
  | .inr (.inr (.inr ci)) => (match o with
    | some (.inr (.inr (.inr (ci2, fs)))) => Nat.beq ci2 ci && ((match vwCl[ci2]? with
      | some q => Nat.beq q.2.2 fs.length
      | none => false) && (List.range fs.length).all (fun k => match fs[k]? with
        | some a => zfa a c k
        | none => false))
    | _ => false)
noncomputable def zlo (lo : sL) : Bool := (match s_lget lo 0 with
  | some (.inr (.inl (some q))) => Nat.beq q 0
  | _ => false) && ((match s_lget lo 1 with
  | some (.inr (.inl (some q))) => Nat.beq q 1
  | _ => false) && ((match s_lget lo 2 with
  | some (.inr (.inl (some q))) => Nat.beq q 74
  | _ => false) && ((match s_lget lo 3 with
  | some (.inr (.inl (some q))) => Nat.beq q 109
  | _ => false) && (match s_lget lo 4 with
  | some (.inl f) => s_nil f.1 && s_ie f.2 0
  | _ => false))))
noncomputable def t_dp : sF := s_num (400)
noncomputable def t_f0 : sG := (0, [(0, .inr (.inl (some 0)))], [], (true, [(0, 2560)], [], []), [(0, .inl (.int, s_nm 0, [.inr ((-2147483648, 2147483647), none)], [], []))])
noncomputable def t_r0 : Option sZ := s_run (s_X (fun _ => []) 8) t_dp 302 (fun f => Nat.beq f.1 23) 200 t_f0
noncomputable def t_chk (z : Option sZ) : Bool := match z with
  | some (c, s, [(e, _, S)]) => Nat.ble c 1000 && (Nat.ble s 100000 && (Nat.beq e 2 && (Nat.beq S.1 23 && (zlo S.2.1 && (s_nil S.2.2.1 && (List.range 110).all (fun c => Nat.beq c 0 || (match zkd c with
    | none => true
    | some κ => zkc (s_hget S.2.2.2.2 c) c κ)))))))
  | _ => false
theorem t_c0 : t_chk t_r0 = true := by decide +kernel
theorem zkd_lt {c : Nat} {κ : zK} (h : zkd c = some κ) : c < 110 := by
  have e : zkd c = bif Nat.blt c 110 then zkd c else none := by
    cases hb : Nat.blt c 110 with
    | true => rfl
    | false =>
      unfold zkd
      rw [hb]
      rfl
  cases hb : Nat.blt c 110 with
  | true => exact q_blt hb
  | false =>
    rw [hb] at e
    rw [e] at h
    cases h
theorem zoneS {rs : List Int} {w : sW} {v : Int} {x : Int32} (h : zone w v = true) (hw : q_W rs w x) : x.toInt = v := by
  unfold zone at h
  split at h
  · rename_i f
    rw [Bool.and_eq_true] at h
    have e1 := s_nilS h.1
    have e2 := s_ie_iff.mp h.2
    have hw : s_val rs f = some x.toInt := hw
    have e3 : f = s_num v := by
      rw [show f = (f.1, f.2) from rfl, e1, e2]
      rfl
    rw [e3, s_numS] at hw
    exact (Option.some.inj hw).symm
  · cases h
theorem zini_c {c j : Nat} (h : (!(Nat.beq c 24) && !(Nat.beq c 79)) = true) : zini c j = zini c 0 := by
  rw [Bool.and_eq_true, Bool.not_eq_true', Bool.not_eq_true'] at h
  unfold zini
  rw [h.1, h.2]
  rfl
theorem zpatS {rs : List Int} {ws : List sW} {c n : Nat} {g : Nat → Int32} (h : zpat ws c n = true) (hw : ∀ j, j < n → ∃ w, ws[j % ws.length]? = some w ∧ q_W rs w (g j)) : ∀ j, j < n → (g j).toInt = zini c j := by
  intro j hj
  obtain ⟨w, h1, h2⟩ := hw j hj
  unfold zpat at h
  split at h
  · cases h
  · rename_i w0
    rw [Bool.and_eq_true] at h
    rw [List.length_singleton, Nat.mod_one] at h1
    cases h1
    rw [zini_c h.2]
    exact zoneS h.1 h2
  · rw [Bool.and_eq_true] at h
    have e := Nat.eq_of_beq_eq_true h.1
    rw [e, Nat.mod_eq_of_lt hj] at h1
    have h3 := List.all_eq_true.mp h.2 j (List.mem_range.mpr hj)
    rw [h1] at h3
    exact zoneS h3 h2
theorem ztyS {a b : FieldType} (h : zty a b = true) : a = b ∧ (b = .int ∨ b = .byte ∨ b = .boolean ∨ b = .char) := by
  unfold zty at h
  split at h
  · exact ⟨rfl, Or.inl rfl⟩
  · exact ⟨rfl, Or.inr (Or.inl rfl)⟩
  · exact ⟨rfl, Or.inr (Or.inr (Or.inl rfl))⟩
  · exact ⟨rfl, Or.inr (Or.inr (Or.inr rfl))⟩
  · cases h
theorem zsameS : ∀ {ds : List (Option Nat)} {cs : List Nat}, zsame ds cs = true → ∀ (j d : Nat), cs[j]? = some d → ds[j]? = some (some d)
  | [], [], _, j, d, h => by simp at h
  | some a :: r, b :: q, h, j, d, hd => by
    unfold zsame at h
    rw [Bool.and_eq_true] at h
    have e := Nat.eq_of_beq_eq_true h.1
    cases j with
    | zero =>
      have : b = d := Option.some.inj hd
      rw [← this, e]
      rfl
    | succ j => exact zsameS (ds := r) (cs := q) h.2 j d hd
  | none :: _, [], h, _, _, _ => by cases h
  | none :: _, _ :: _, h, _, _, _ => by cases h
  | some _ :: _, [], h, _, _, _ => by cases h
  | [], _ :: _, h, _, _, _ => by cases h
theorem vp_congr {cA : ClassId} {n : Nat} {f g : Nat → Int32} (h : ∀ j, j < n → f j = g j) : vp_cell cA (n, .inl f) = vp_cell cA (n, .inl g) := by
  show arrV cA n (fun j => .int (f j)) = arrV cA n (fun j => .int (g j))
  unfold arrV
  have e : (Array.ofFn (n := n) fun j => Value.int (f j.val)) = Array.ofFn (n := n) fun j => Value.int (g j.val) := by
    congr 1
    funext j
    rw [h j.val j.isLt]
  rw [e]
theorem q_LgetZ {rs : List Int} {ad : Nat → Nat} : ∀ {as : List sA} {vs : List Value} {k : Nat} {a : sA}, q_L rs ad as vs → as[k]? = some a → ∃ v, vs[k]? = some v ∧ q_A rs ad a v
  | [], vs, k, a, h, hk => by simp at hk
  | b :: as, vs, k, a, h, hk => by
    obtain ⟨v, vs', rfl, h1, h2⟩ := h
    cases k with
    | zero =>
      cases hk
      exact ⟨v, rfl, h1⟩
    | succ k =>
      obtain ⟨w, w1, w2⟩ := q_LgetZ (as := as) (vs := vs') (k := k) h2 hk
      exact ⟨w, w1, w2⟩
/-- a cell as the check has it -/
theorem zkcS {dC : Nat → ClassId} {dI : Nat → Nat → Nat} {dA : FieldType → ClassId} {rs : List Int} {ad : Nat → Nat} {b0 c : Nat} {H : Heap} {sc : sC} {κ : zK} {m : zM} (h : zkc (some sc) c κ = true) (hC : q_C dC dI dA rs ad b0 (ad c) H sc) (hb : b0 ≤ ad c) (hm : (∀ n, κ ≠ .inr (.inl n)) → m c = zini c) (hl : ∀ n, κ = .inr (.inl n) → ∀ g : Nat → Int64, H[ad c]? = some (vp_cell (dA .long) (n, .inr (.inl g))) → H[ad c]? = some (vp_cell (dA .long) (n, .inr (.inl (fun j => Int64.ofInt (m c j)))))) : zC dC dI dA ad m H c κ := by
  unfold zkc at h
  split at h
  · rename_i ty n
    have hm2 := hm (fun n e => by cases e)
    split at h
    · rename_i ro heq
      cases heq
      rw [Bool.and_eq_true, Bool.and_eq_true, Bool.and_eq_true] at h
      obtain ⟨h1, h2, h3, h4⟩ := h
      obtain ⟨n2, g, k1, k2, k3, k4⟩ := hC
      obtain ⟨e1, e2⟩ := ztyS h1
      have e3 := s_nilS h2
      have e4 := s_ie_iff.mp h3
      have hn : n2 = n := by
        have h9 := k2.1
        rw [show ro.2.1 = s_num (n : Int) by rw [show ro.2.1 = (ro.2.1.1, ro.2.1.2) from rfl, e3, e4]; rfl, s_numS] at h9
        have := Option.some.inj h9
        omega
      subst hn
      have hv := zpatS h4 k2.2.2.1
      have hcell := k1.cl (Or.inl h2)
      refine ⟨?_, e2⟩
      rw [hcell, e1]
      refine congrArg some (vp_congr (fun j hj => ?_))
      rw [hm2, ← hv j hj, z_ofN]
    · cases h
  · rename_i n
    split at h
    · rename_i n2 heq
      cases heq
      have e := Nat.eq_of_beq_eq_true h
      subst e
      obtain ⟨-, g, hg⟩ := hC
      exact hl _ rfl g hg
    · cases h
  · rename_i cs
    split at h
    · rename_i n ds heq
      cases heq
      rw [Bool.and_eq_true] at h
      have e := Nat.eq_of_beq_eq_true h.1
      subst e
      obtain ⟨g, g1, g2⟩ := hC
      exact ⟨g, g1, fun j d hd => g2 j (some d) (zsameS h.2 j d hd)⟩
    · cases h
  · rename_i ci
    have hm2 := hm (fun n e => by cases e)
    split at h
    · rename_i ci2 fs heq
      cases heq
      rw [Bool.and_eq_true, Bool.and_eq_true] at h
      obtain ⟨h1, h2, h3⟩ := h
      have e := Nat.eq_of_beq_eq_true h1
      subst e
      obtain ⟨-, vs, q, q1, q2, q3⟩ := hC
      rw [q2] at h2
      have e2 := Nat.eq_of_beq_eq_true h2
      refine ⟨q, q2, q3.to (fun k hk => ?_)⟩
      have h4 := List.all_eq_true.mp h3 k (List.mem_range.mpr (by omega))
      split at h4
      · rename_i a ha
        obtain ⟨v, v1, v2⟩ := q_LgetZ q1 ha
        have eL : vp_V vs k = v := by
          show vs.getD k .null = v
          rw [List.getD_eq_getElem?_getD, v1]
          rfl
        have eR : vp_V ((List.range q.2.2).map (fun k => zv ad (z_fv m c k))) k = zv ad (z_fv m c k) := by
          show ((List.range q.2.2).map (fun k => zv ad (z_fv m c k))).getD k .null = _
          rw [List.getD_eq_getElem?_getD, List.getElem?_map, List.getElem?_range hk]
          rfl
        rw [eL, eR]
        unfold zfa at h4
        unfold z_fv
        rw [hm2]
        cases b1 : Nat.beq (z_fk c k) 0 with
        | true =>
          rw [b1] at h4
          simp only [cond_true] at h4 ⊢
          split at h4
          · rename_i f
            rw [Bool.and_eq_true] at h4
            obtain ⟨y, rfl, hy⟩ := v2
            have e3 : f = s_num (zini c k) := by
              rw [show f = (f.1, f.2) from rfl, s_nilS h4.1, s_ie_iff.mp h4.2]
              rfl
            rw [e3, s_numS] at hy
            show Value.int y = Value.int (Int32.ofInt (zini c k))
            rw [Option.some.inj hy, z_ofN]
          · cases h4
        | false =>
          rw [b1] at h4
          simp only [cond_false] at h4 ⊢
          cases b2 : Nat.beq (z_fk c k) 999 with
          | true =>
            rw [b2] at h4
            simp only [cond_true] at h4 ⊢
            split at h4
            · rw [s_ie_iff.mp h4]
              exact v2
            · cases h4
          | false =>
            rw [b2] at h4
            simp only [cond_false] at h4 ⊢
            split at h4
            · rename_i q9
              have e5 := Nat.eq_of_beq_eq_true h4
              subst e5
              exact v2
            · cases h4
      · cases h4
    · cases h
noncomputable def zok (o : Option (Int × Int)) : Prop := ∀ q, o = some q → q.1 ≤ 0 ∧ 0 ≤ q.2
theorem zok_bif {x : Bool} {a b : Option (Int × Int)} (h1 : zok a) (h2 : zok b) : zok (bif x then a else b) := by
  cases x
  · exact h2
  · exact h1
theorem zok_none : zok none := fun q h => nomatch h
theorem zok_some {l h : Int} (e : l ≤ 0 ∧ 0 ≤ h) : zok (some (l, h)) := fun q h => by
  cases h
  exact e
theorem zok75 (j : Nat) : zok (zb75 j) := by
  unfold zb75
  repeat' first
    | exact zok_none
    | exact zok_some (by decide)
    | refine zok_bif ?_ ?_
theorem zokMm (j : Nat) : zok (zbMm j) := by
  unfold zbMm
  repeat' first
    | exact zok_none
    | exact zok_some (by decide)
    | refine zok_bif ?_ ?_
theorem zbt0 (c j : Nat) : zok (zbt c j) := by
  unfold zbt
  repeat' first
    | exact zok_none
    | exact zok_some (by decide)
    | exact zok75 _
    | exact zokMm _
    | refine zok_bif ?_ ?_
theorem zini0 {c j : Nat} (h1 : c ≠ 46) (h2 : c ≠ 24) (h3 : c ≠ 79) : zini c j = 0 := by
  unfold zini
  rw [q_beqF h1, q_beqF h2, q_beqF h3]
  rfl
noncomputable def zi3 (j : Nat) : Int := bif Nat.beq j 0 then 3 else bif Nat.beq j 1 then 2 else bif Nat.beq j 2 then 1 else 0
theorem zi3B (j : Nat) : 0 ≤ zi3 j ∧ zi3 j ≤ 9 := by
  unfold zi3
  cases Nat.beq j 0 <;> cases Nat.beq j 1 <;> cases Nat.beq j 2 <;> (constructor <;> simp only [cond_true, cond_false] <;> omega)
theorem zini_b (c j : Nat) : zbd c j (zini c j) := by
  by_cases h1 : c = 46
  · subst h1
    trivial
  · by_cases h2 : c = 24
    · subst h2
      exact zi3B j
    · by_cases h3 : c = 79
      · subst h3
        exact zi3B j
      · rw [zini0 h1 h2 h3]
        have := zbt0 c j
        unfold zbd
        cases e : zbt c j with
        | none => trivial
        | some q => exact this q e
theorem zlrc : (List.range 110).all (fun c => match zkd c with
  | some (.inr (.inl _)) => Nat.beq c 93 || Nat.beq c 109
  | _ => true) = true := by decide +kernel
theorem zlr {c n : Nat} (h : zkd c = some (.inr (.inl n))) : c = 93 ∨ c = 109 := by
  have h1 := List.all_eq_true.mp zlrc c (List.mem_range.mpr (zkd_lt h))
  rw [h] at h1
  have h1 : (Nat.beq c 93 || Nat.beq c 109) = true := h1
  rw [Bool.or_eq_true] at h1
  rcases h1 with h1 | h1
  · exact Or.inl (Nat.eq_of_beq_eq_true h1)
  · exact Or.inr (Nat.eq_of_beq_eq_true h1)
section ZStart
variable {L : Int} {xs : Nat → Int} {G : Nat → Nat → Int}
theorem zm0_i {c j : Nat} (h0 : c ≠ 0) (h1 : c ≠ 110) (h2 : ∀ n, zkd c ≠ some (.inr (.inl n))) : zm0 L xs G c j = zini c j := by
  unfold zm0
  rw [q_beqF h0, q_beqF h1]
  simp only [cond_false]
theorem zm0_l {c n j : Nat} (h : zkd c = some (.inr (.inl n))) : zm0 L xs G c j = G c j := by
  have h2 := zlr h
  unfold zm0
  rw [q_beqF (show c ≠ 0 by omega), q_beqF (show c ≠ 110 by omega)]
  simp only [cond_false]
  rw [h]
theorem zm0_b : zB (zm0 L xs G) := by
  intro c j
  by_cases h0 : c = 0
  · subst h0
    trivial
  · by_cases h1 : c = 110
    · subst h1
      trivial
    · by_cases h2 : ∃ n, zkd c = some (.inr (.inl n))
      · obtain ⟨n, h2⟩ := h2
        rcases zlr h2 with rfl | rfl
        · trivial
        · trivial
      · rw [zm0_i h0 h1 (fun n e => h2 ⟨n, e⟩)]
        exact zini_b c j
theorem zm0_inv : Inv 0 (xs, L) 0 0 (zm0 L xs G) := by
  refine ⟨zm0_b, ⟨rfl, fun j hj => ?_⟩, ⟨⟨fun p hp => ?_, fun k hk => absurd hk (Nat.not_lt_zero k)⟩, ⟨rfl, fun p hp => ?_⟩, Or.inl ⟨(by show (0 : Int) < 1; decide), rfl⟩⟩, ⟨⟨rfl, rfl⟩, ⟨rfl, rfl⟩, fun p hp => absurd hp (Nat.not_lt_zero p), ⟨fun p hp => absurd hp (Nat.not_lt_zero p), fun p hp => absurd hp (Nat.not_lt_zero p), rfl, fun i hi => ?_, rfl, rfl⟩, fun p hp => absurd hp (Nat.not_lt_zero p), ⟨(by show (0 : Int) ≤ 0; decide), (by show (0 : Int) ≤ 20; decide)⟩, (by show (0 : Int) ≤ 0; decide), fun p hp => absurd hp (Nat.not_lt_zero p)⟩, fun j hj => rfl, ⟨rfl, fun i hi => ?_⟩, ⟨⟨(by show (0 : Int) ≤ 0; decide), (by show (0 : Int) ≤ 0; decide)⟩, fun i hi => Or.inl ⟨?_, rfl⟩⟩, ⟨rfl, fun i hi => ?_⟩, ⟨rfl, fun i hi => ?_⟩, (by show (0 : Int) ≤ 0; decide), rfl, rfl, fun j _ => rfl, rfl, fun x => x.elim⟩
  · have hj : (j : Int) < 0 := hj
    omega
  · have hp : (p : Int) < 0 := hp
    omega
  · have hp : (p : Int) < 0 := hp
    omega
  · have hi : (i : Int) < 0 := hi
    omega
  · have hi : (i : Int) < 0 := hi
    omega
  · rfl
  · have hi : (i : Int) < 0 := hi
    omega
  · have hi : (i : Int) < 0 := hi
    omega
end ZStart
noncomputable def lo0 (i : Int) : zL := [(0, zr 0), (1, zr 1), (2, zr 74), (3, zr 109), (4, zi i)]
noncomputable def t_ad (b z : Nat) : Nat → Nat
  | 0 => b
  | k + 1 => z + k
set_option maxHeartbeats 4000000 in
theorem zF_start {dC : Nat → ClassId} {dI : Nat → Nat → Nat} {dA : FieldType → ClassId} {Hb H0 H : Heap} {b L n : Nat} {xs : Nat → Int32} {rs : List Int} {ls : Array Slot} {vs : List Value} {locs : List Loc} {S : sG} (hsh : dA .short = b) (hb : b < Hb.size) (hX : ∃ scr : Cell, Hb[b]? = some scr ∧ scr.vm ≠ .unknown ∧ scr.slots.size = L ∧ ∀ j : Nat, j < L → scr.slots[j]? = some (.int (xs j))) (hlo : zlo S.2.1 = true) (hst : s_nil S.2.2.1 = true) (hh : (List.range 110).all (fun c => Nat.beq c 0 || (match zkd c with
    | none => true
    | some κ => zkc (s_hget S.2.2.2.2 c) c κ)) = true) (F : q_Fr dC dI dA rs (t_ad b Hb.size) Hb H0 n S ls vs H locs) : ∃ G, zF dC dI dA Hb (t_ad b Hb.size) n (23, lo0 0, [], zm0 (L : Int) (fun j => (xs j).toInt) G) ls vs H locs := by
  obtain ⟨f1, f2, f3, ⟨g1, g2, ⟨g3, g3'⟩, g4, g5, g6, g7⟩, f5⟩ := F
  have hch : ∀ c : Nat, ∃ g : Nat → Int, ∀ (n : Nat) (g9 : Nat → Int64), zkd c = some (.inr (.inl n)) → H[t_ad b Hb.size c]? = some (vp_cell (dA .long) (n, .inr (.inl g9))) → H[t_ad b Hb.size c]? = some (vp_cell (dA .long) (n, .inr (.inl (fun j => Int64.ofInt (g j))))) := by
    intro c
    by_cases hex : ∃ (n : Nat) (g9 : Nat → Int64), zkd c = some (.inr (.inl n)) ∧ H[t_ad b Hb.size c]? = some (vp_cell (dA .long) (n, .inr (.inl g9)))
    · obtain ⟨n, g9, e1, e2⟩ := hex
      refine ⟨fun j => (g9 j).toInt, fun n2 g8 q1 _ => ?_⟩
      have en : n = n2 := by
        rw [e1] at q1
        cases q1
        rfl
      subst en
      have eg : (fun j => Int64.ofInt (g9 j).toInt) = g9 := funext fun j => Int64.ofInt_toInt _
      rw [eg]
      exact e2
    · exact ⟨fun _ => 0, fun n g9 q1 q2 => absurd ⟨n, g9, q1, q2⟩ hex⟩
  have ref : ∀ (i q : Nat), s_lget S.2.1 i = some (.inr (.inl (some q))) → ls[i]? = some (.val (zv (t_ad b Hb.size) (zr q))) := fun i q e => by
    obtain ⟨v, h1, h2⟩ := f1.get e
    have h2 : v = q_rf (t_ad b Hb.size) (some q) := h2
    rw [h1, h2]
    rfl
  unfold zlo at hlo
  rw [Bool.and_eq_true, Bool.and_eq_true, Bool.and_eq_true, Bool.and_eq_true] at hlo
  obtain ⟨h0, h1, h2, h3, h4⟩ := hlo
  have L0 : ls[0]? = some (.val (zv (t_ad b Hb.size) (zr 0))) := by
    split at h0
    · rename_i q e
      exact ref 0 0 (by rw [e, Nat.eq_of_beq_eq_true h0])
    · cases h0
  have L1 : ls[1]? = some (.val (zv (t_ad b Hb.size) (zr 1))) := by
    split at h1
    · rename_i q e
      exact ref 1 1 (by rw [e, Nat.eq_of_beq_eq_true h1])
    · cases h1
  have L2 : ls[2]? = some (.val (zv (t_ad b Hb.size) (zr 74))) := by
    split at h2
    · rename_i q e
      exact ref 2 74 (by rw [e, Nat.eq_of_beq_eq_true h2])
    · cases h2
  have L3 : ls[3]? = some (.val (zv (t_ad b Hb.size) (zr 109))) := by
    split at h3
    · rename_i q e
      exact ref 3 109 (by rw [e, Nat.eq_of_beq_eq_true h3])
    · cases h3
  have L4 : ls[4]? = some (.val (zv (t_ad b Hb.size) (zi 0))) := by
    split at h4
    · rename_i f e
      rw [Bool.and_eq_true] at h4
      obtain ⟨v, k1, y, rfl, hy⟩ := f1.get e
      have e3 : f = s_num 0 := by
        rw [show f = (f.1, f.2) from rfl, s_nilS h4.1, s_ie_iff.mp h4.2]
        rfl
      rw [e3, s_numS] at hy
      rw [k1]
      show some (Slot.val (Value.int y)) = some (Slot.val (Value.int (Int32.ofInt 0)))
      rw [Option.some.inj hy, z_ofN]
    · cases h4
  refine ⟨fun c => Classical.choose (hch c), ⟨f1.1, f1.2.1, fun q hq => ?_⟩, ?_, ⟨g1, g3', ⟨⟨hsh.symm, hb⟩, ?_⟩, fun c κ hc0 hc => ?_, fun c d _ _ e => ?_⟩, f5⟩
  · have hq : q ∈ [(0, zv (t_ad b Hb.size) (zr 0)), (1, zv (t_ad b Hb.size) (zr 1)), (2, zv (t_ad b Hb.size) (zr 74)), (3, zv (t_ad b Hb.size) (zr 109)), (4, zv (t_ad b Hb.size) (zi 0))] := hq
    rcases List.mem_cons.mp hq with rfl | hq
    · exact L0
    rcases List.mem_cons.mp hq with rfl | hq
    · exact L1
    rcases List.mem_cons.mp hq with rfl | hq
    · exact L2
    rcases List.mem_cons.mp hq with rfl | hq
    · exact L3
    rcases List.mem_cons.mp hq with rfl | hq
    · exact L4
    · cases hq
  · rw [s_nilS hst] at f2
    exact f2
  · obtain ⟨scr, k1, k2, k3, k4⟩ := hX
    refine ⟨scr, (g1 b hb).trans k1, k2, ?_, fun j hj => ?_⟩
    · show ((scr.slots.size : Nat) : Int) = (L : Int)
      rw [k3]
    · rw [k4 j (by omega)]
      show some (Value.int (xs j)) = some (Value.int (Int32.ofInt (xs j).toInt))
      rw [z_ofN]
  · have hlt := zkd_lt hc
    have hbc : Hb.size ≤ t_ad b Hb.size c := by
      cases c with
      | zero => exact absurd rfl hc0
      | succ k =>
        show Hb.size ≤ Hb.size + k
        omega
    refine ⟨hbc, ?_⟩
    have hk := List.all_eq_true.mp hh c (List.mem_range.mpr hlt)
    rw [q_beqF hc0, hc] at hk
    have hk : zkc (s_hget S.2.2.2.2 c) c κ = true := hk
    cases e : s_hget S.2.2.2.2 c with
    | none =>
      rw [e] at hk
      rcases κ with ⟨ty, n⟩ | n | cs | ci <;> cases hk
    | some sc =>
      rw [e] at hk
      refine zkcS hk (g5 (c, sc) (s_hgetS e)) hbc (fun hn => ?_) (fun n en g9 hg => ?_)
      · funext j
        exact zm0_i (L := (L : Int)) (xs := fun j => (xs j).toInt) (G := fun c => Classical.choose (hch c)) hc0 (by omega) (fun n e9 => by
          rw [hc] at e9
          exact hn n (Option.some.inj e9))
      · have h9 := Classical.choose_spec (hch c) n g9 (by rw [hc, en]) hg
        have e9 : (fun j => Int64.ofInt (zm0 (L : Int) (fun j => (xs j).toInt) (fun c => Classical.choose (hch c)) c j)) = (fun j => Int64.ofInt (Classical.choose (hch c) j)) := funext fun j => by rw [zm0_l (by rw [hc, en])]
        rw [e9]
        exact h9
  · cases c with
    | zero =>
      cases d with
      | zero => rfl
      | succ k =>
        have e : b = Hb.size + k := e
        omega
    | succ k =>
      cases d with
      | zero =>
        have e : Hb.size + k = b := e
        omega
      | succ k2 =>
        have e : Hb.size + k = Hb.size + k2 := e
        omega
