/-! The law's start: the first table. -/
def zini (c j : Nat) : Int := bif Nat.beq c 46 then -1 else bif Nat.beq c 24 || Nat.beq c 79 then (bif Nat.beq j 0 then 3 else bif Nat.beq j 1 then 2 else bif Nat.beq j 2 then 1 else 0) else 0
def zm0 (L : Int) (xs : Nat → Int) (G : Nat → Nat → Int) : zM := fun c j => bif Nat.beq c 0 then xs j else bif Nat.beq c 110 then (bif Nat.beq j 0 then L else 0) else match zkd c with
  | some (.inr (.inl _)) => G c j
  | _ => zini c j
def zone (w : sW) (v : Int) : Bool := match w with
  | .inl f => s_nil f.1 && s_ie f.2 v
  | _ => false
def zpat (ws : List sW) (c n : Nat) : Bool := match ws with
  | [] => false
  | [w] => zone w (zini c 0) && (!(Nat.beq c 24) && !(Nat.beq c 79))
  | ws => Nat.beq ws.length n && (List.range n).all (fun j => match ws[j]? with
    | some w => zone w (zini c j)
    | none => false)
def zty : FieldType → FieldType → Bool
  | .int, .int => true
  | .byte, .byte => true
  | .boolean, .boolean => true
  | .char, .char => true
  | _, _ => false
def zsame : List (Option Nat) → List Nat → Bool
  | [], [] => true
  | some a :: r, b :: q => Nat.beq a b && zsame r q
  | _, _ => false
def zfa (a : sA) (c k : Nat) : Bool := bif Nat.beq (z_fk c k) 0 then (match a with
  | .inl f => s_nil f.1 && s_ie f.2 (zini c k)
  | _ => false) else bif Nat.beq (z_fk c k) 999 then (match a with
  | .inr (.inl none) => s_ie (zini c k) 0
  | _ => false) else (match a with
  | .inr (.inl (some q)) => Nat.beq q (z_fk c k)
  | _ => false)
def zkc (o : Option sC) (c : Nat) (κ : zK) : Bool := match κ with
  | .inl (ty, n) => (match o with
    | some (.inl ro) => zty ro.1 ty && (s_nil ro.2.1.1 && (s_ie ro.2.1.2 (n : Int) && zpat ro.2.2.1 c n))
    | _ => false)
  | .inr (.inl n) => (match o with
    | some (.inr (.inl n2)) => Nat.beq n2 n
    | _ => false)
  | .inr (.inr (.inl cs)) => (match o with
    | some (.inr (.inr (.inl (n, ds)))) => Nat.beq n cs.length && zsame ds cs
    | _ => false)
  | .inr (.inr (.inr ci)) => (match o with
    | some (.inr (.inr (.inr (ci2, fs)))) => Nat.beq ci2 ci && ((match vwCl[ci2]? with
      | some q => Nat.beq q.2.2 fs.length
      | none => false) && (List.range fs.length).all (fun k => match fs[k]? with
        | some a => zfa a c k
        | none => false))
    | _ => false)
def zlo (lo : sL) : Bool := (match s_lget lo 0 with
  | some (.inr (.inl (some q))) => Nat.beq q 0
  | _ => false) && ((match s_lget lo 1 with
  | some (.inr (.inl (some q))) => Nat.beq q 1
  | _ => false) && ((match s_lget lo 2 with
  | some (.inr (.inl (some q))) => Nat.beq q 74
  | _ => false) && ((match s_lget lo 3 with
  | some (.inr (.inl (some q))) => Nat.beq q 109
  | _ => false) && (match s_lget lo 4 with
  | some (.inl f) => s_nil f.1 && s_ie f.2 0
  | _ => false))))
def t_dp : sF := s_num (vP 400)
def t_f0 : sG := (0, [(0, vr 0)], [], (true, [(vP 0, vP 2560)], [], []), [(0, vQ .int (s_nm 0) [wb (vM 2147483647) (vP 2147483647)] [])])
def t_r0 : Option sZ := s_run (s_X (fun _ => []) 8) t_dp 302 (fun f => Nat.beq f.1 23) 200 t_f0
def t_chk (z : Option sZ) : Bool := match z with
  | some (c, s, [(e, _, S)]) => Nat.ble c 1000 && (Nat.ble s 100000 && (Nat.beq e 2 && (Nat.beq S.1 23 && (zlo S.2.1 && (s_nil S.2.2.1 && (List.range 110).all (fun c => Nat.beq c 0 || (match zkd c with
    | none => true
    | some κ => zkc (s_hget S.2.2.2.2 c) c κ)))))))
  | _ => false
theorem t_c0 : t_chk t_r0 = true := by decide +kernel
theorem zkd_lt {c : Nat} {κ : zK} (h : zkd c = some κ) : c < 110 := by
  have e : zkd c = bif Nat.blt c 110 then zkd c else none := by
    cases hb : Nat.blt c 110 with
    | true => rfl
    | false =>
      unfold zkd
      rw [hb]
      rfl
  cases hb : Nat.blt c 110 with
  | true => exact q_blt hb
  | false =>
    rw [hb] at e
    rw [e] at h
    cases h
theorem zoneS {rs : List Int} {w : sW} {v : Int} {x : Int32} (h : zone w v = true) (hw : q_W rs w x) : x.toInt = v := by
  unfold zone at h
  split at h
  · rename_i f
    rw [Bool.and_eq_true] at h
    have e1 := s_nilS h.1
    have e2 := s_ie_iff.mp h.2
    have hw : s_val rs f = some x.toInt := hw
    have e3 : f = s_num v := by
      rw [show f = (f.1, f.2) from rfl, e1, e2]
      rfl
    rw [e3, s_numS] at hw
    exact (Option.some.inj hw).symm
  · cases h
theorem zini_c {c j : Nat} (h : (!(Nat.beq c 24) && !(Nat.beq c 79)) = true) : zini c j = zini c 0 := by
  rw [Bool.and_eq_true, Bool.not_eq_true', Bool.not_eq_true'] at h
  unfold zini
  rw [h.1, h.2]
  rfl
theorem zpatS {rs : List Int} {ws : List sW} {c n : Nat} {g : Nat → Int32} (h : zpat ws c n = true) (hw : ∀ j, j < n → ∃ w, ws[j % ws.length]? = some w ∧ q_W rs w (g j)) : ∀ j, j < n → (g j).toInt = zini c j := by
  intro j hj
  obtain ⟨w, h1, h2⟩ := hw j hj
  unfold zpat at h
  split at h
  · cases h
  · rename_i w0
    rw [Bool.and_eq_true] at h
    rw [List.length_singleton, Nat.mod_one] at h1
    cases h1
    rw [zini_c h.2]
    exact zoneS h.1 h2
  · rw [Bool.and_eq_true] at h
    have e := Nat.eq_of_beq_eq_true h.1
    rw [e, Nat.mod_eq_of_lt hj] at h1
    have h3 := List.all_eq_true.mp h.2 j (List.mem_range.mpr hj)
    rw [h1] at h3
    exact zoneS h3 h2
theorem ztyS {a b : FieldType} (h : zty a b = true) : a = b ∧ (b = .int ∨ b = .byte ∨ b = .boolean ∨ b = .char) := by
  unfold zty at h
  split at h
  · exact ⟨rfl, Or.inl rfl⟩
  · exact ⟨rfl, Or.inr (Or.inl rfl)⟩
  · exact ⟨rfl, Or.inr (Or.inr (Or.inl rfl))⟩
  · exact ⟨rfl, Or.inr (Or.inr (Or.inr rfl))⟩
  · cases h
theorem zsameS : ∀ {ds : List (Option Nat)} {cs : List Nat}, zsame ds cs = true → ∀ (j d : Nat), cs[j]? = some d → ds[j]? = some (some d)
  | [], [], _, j, d, h => by simp at h
  | some a :: r, b :: q, h, j, d, hd => by
    unfold zsame at h
    rw [Bool.and_eq_true] at h
    have e := Nat.eq_of_beq_eq_true h.1
    cases j with
    | zero =>
      have : b = d := Option.some.inj hd
      rw [← this, e]
      rfl
    | succ j => exact zsameS (ds := r) (cs := q) h.2 j d hd
  | none :: _, [], h, _, _, _ => by cases h
  | none :: _, _ :: _, h, _, _, _ => by cases h
  | some _ :: _, [], h, _, _, _ => by cases h
  | [], _ :: _, h, _, _, _ => by cases h
theorem vp_congr {cA : ClassId} {n : Nat} {f g : Nat → Int32} (h : ∀ j, j < n → f j = g j) : vp_cell cA (n, .inl f) = vp_cell cA (n, .inl g) := by
  show arrV cA n (fun j => .int (f j)) = arrV cA n (fun j => .int (g j))
  unfold arrV
  have e : (Array.ofFn (n := n) fun j => Value.int (f j.val)) = Array.ofFn (n := n) fun j => Value.int (g j.val) := by
    congr 1
    funext j
    rw [h j.val j.isLt]
  rw [e]
theorem q_LgetZ {rs : List Int} {ad : Nat → Nat} : ∀ {as : List sA} {vs : List Value} {k : Nat} {a : sA}, q_L rs ad as vs → as[k]? = some a → ∃ v, vs[k]? = some v ∧ q_A rs ad a v
  | [], vs, k, a, h, hk => by simp at hk
  | b :: as, vs, k, a, h, hk => by
    obtain ⟨v, vs', rfl, h1, h2⟩ := h
    cases k with
    | zero =>
      cases hk
      exact ⟨v, rfl, h1⟩
    | succ k => exact q_LgetZ (as := as) h2 hk
/-- a cell as the check has it -/
theorem zkcS {dC : Nat → ClassId} {dI : Nat → Nat → Nat} {dA : FieldType → ClassId} {rs : List Int} {ad : Nat → Nat} {b0 c : Nat} {H : Heap} {sc : sC} {κ : zK} {m : zM} (h : zkc (some sc) c κ = true) (hC : q_C dC dI dA rs ad b0 (ad c) H sc) (hb : b0 ≤ ad c) (hm : (∀ n, κ ≠ .inr (.inl n)) → m c = zini c) (hl : ∀ n, κ = .inr (.inl n) → ∀ g : Nat → Int64, H[ad c]? = some (vp_cell (dA .long) (n, .inr (.inl g))) → H[ad c]? = some (vp_cell (dA .long) (n, .inr (.inl (fun j => Int64.ofInt (m c j)))))) : zC dC dI dA ad m H c κ := by
  unfold zkc at h
  split at h
  · rename_i ty n
    have hm := hm (fun n e => by cases e)
    split at h
    · rename_i ro heq
      cases heq
      rw [Bool.and_eq_true, Bool.and_eq_true, Bool.and_eq_true] at h
      obtain ⟨h1, h2, h3, h4⟩ := h
      obtain ⟨n2, g, k1, k2, k3, k4⟩ := hC
      obtain ⟨e1, e2⟩ := ztyS h1
      have e3 := s_nilS h2
      have e4 := s_ie_iff.mp h3
      have hn : n2 = n := by
        have h9 := k2.1
        rw [show ro.2.1 = s_num (n : Int) by rw [show ro.2.1 = (ro.2.1.1, ro.2.1.2) from rfl, e3, e4]; rfl, s_numS] at h9
        have := Option.some.inj h9
        omega
      subst hn
      have hv := zpatS h4 k2.2.2.1
      have hcell := k1.cl (Or.inl h2)
      refine ⟨?_, e2⟩
      rw [hcell, e1]
      refine congrArg some (vp_congr (fun j hj => ?_))
      rw [hm, ← hv j hj, z_ofN]
    · cases h
  · rename_i n
    split at h
    · rename_i n2 heq
      cases heq
      have e := Nat.eq_of_beq_eq_true h
      subst e
      obtain ⟨-, g, hg⟩ := hC
      exact hl _ rfl g hg
    · cases h
  · rename_i cs
    split at h
    · rename_i n ds heq
      cases heq
      rw [Bool.and_eq_true] at h
      have e := Nat.eq_of_beq_eq_true h.1
      subst e
      obtain ⟨g, g1, g2⟩ := hC
      exact ⟨g, g1, fun j d hd => g2 j (some d) (zsameS h.2 j d hd)⟩
    · cases h
  · rename_i ci
    have hm := hm (fun n e => by cases e)
    split at h
    · rename_i ci2 fs heq
      cases heq
      rw [Bool.and_eq_true, Bool.and_eq_true] at h
      obtain ⟨h1, h2, h3⟩ := h
      have e := Nat.eq_of_beq_eq_true h1
      subst e
      obtain ⟨-, vs, q, q1, q2, q3⟩ := hC
      rw [q2] at h2
      have e2 := Nat.eq_of_beq_eq_true h2
      refine ⟨q, q2, q3.to (fun k hk => ?_)⟩
      have h4 := List.all_eq_true.mp h3 k (List.mem_range.mpr (by omega))
      split at h4
      · rename_i a ha
        obtain ⟨v, v1, v2⟩ := q_LgetZ q1 ha
        have eL : vp_V vs k = v := by
          show vs.getD k .null = v
          rw [List.getD_eq_getElem?_getD, v1]
          rfl
        have eR : vp_V ((List.range q.2.2).map (fun k => zv ad (z_fv m c k))) k = zv ad (z_fv m c k) := by
          show ((List.range q.2.2).map (fun k => zv ad (z_fv m c k))).getD k .null = _
          rw [List.getD_eq_getElem?_getD, List.getElem?_map, List.getElem?_range hk]
          rfl
        rw [eL, eR]
        unfold zfa at h4
        unfold z_fv
        rw [hm]
        cases b1 : Nat.beq (z_fk c k) 0 with
        | true =>
          rw [b1] at h4
          simp only [cond_true] at h4 ⊢
          split at h4
          · rename_i f
            rw [Bool.and_eq_true] at h4
            obtain ⟨y, rfl, hy⟩ := v2
            have e3 : f = s_num (zini c k) := by
              rw [show f = (f.1, f.2) from rfl, s_nilS h4.1, s_ie_iff.mp h4.2]
              rfl
            rw [e3, s_numS] at hy
            show Value.int y = Value.int (Int32.ofInt (zini c k))
            rw [Option.some.inj hy, z_ofN]
          · cases h4
        | false =>
          rw [b1] at h4
          simp only [cond_false] at h4 ⊢
          cases b2 : Nat.beq (z_fk c k) 999 with
          | true =>
            rw [b2] at h4
            simp only [cond_true] at h4 ⊢
            split at h4
            · rw [s_ie_iff.mp h4]
              exact v2
            · cases h4
          | false =>
            rw [b2] at h4
            simp only [cond_false] at h4 ⊢
            split at h4
            · rename_i q9
              have e5 := Nat.eq_of_beq_eq_true h4
              subst e5
              exact v2
            · cases h4
      · cases h4
    · cases h
theorem zbt0 {c j : Nat} {q : Int × Int} (h : zbt c j = some q) : q.1 ≤ 0 ∧ 0 ≤ q.2 := by
  unfold zbt zbMm zb75 at h
  simp only [cond_eq_ite] at h
  repeat' split at h
  all_goals first
    | (cases h; done)
    | (cases h; exact ⟨by decide, by decide⟩)
