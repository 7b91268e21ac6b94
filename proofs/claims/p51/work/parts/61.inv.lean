/-! What holds between two calls, of the class's cells and the reference's. -/
noncomputable abbrev zLs : Type := List (Nat × Option Nat)
noncomputable def inL (L : zLs) (c j : Nat) : Bool := L.any (fun q => Nat.beq q.1 c && (match q.2 with
  | none => true
  | some x => Nat.beq x j))
noncomputable def dj (L K : zLs) : Bool := L.all (fun q => K.all (fun r => !(Nat.beq q.1 r.1) || (match q.2, r.2 with
  | some x, some y => !(Nat.beq x y)
  | _, _ => false)))
theorem dj_ok {L K : zLs} {c j : Nat} (h : dj L K = true) (hk : inL K c j = true) : inL L c j = false := by
  cases hl : inL L c j with
  | false => rfl
  | true =>
    obtain ⟨q, hq, q1⟩ := List.any_eq_true.mp hl
    obtain ⟨r, hr, r1⟩ := List.any_eq_true.mp hk
    have h1 := List.all_eq_true.mp (List.all_eq_true.mp h q hq) r hr
    rw [Bool.and_eq_true] at q1 r1
    have e1 := Nat.eq_of_beq_eq_true q1.1
    have e2 := Nat.eq_of_beq_eq_true r1.1
    rw [e1, e2, Nat.beq_refl, Bool.not_true, Bool.false_or] at h1
    obtain ⟨qc, qo⟩ := q
    obtain ⟨rc, ro⟩ := r
    rcases qo with _ | x
    · cases h1
    · rcases ro with _ | y
      · cases h1
      · have f1 := Nat.eq_of_beq_eq_true q1.2
        have f2 := Nat.eq_of_beq_eq_true r1.2
        dsimp only at h1
        rw [f1, f2, Nat.beq_refl] at h1
        cases h1
noncomputable def Agree (K : zLs) (m m1 : zM) : Prop := ∀ c j, inL K c j = true → m1 c j = m c j
theorem Agree.of {L K : zLs} {m m1 : zM} (h : zFr (inL L) m m1) (hd : dj L K = true) : Agree K m m1 := fun c j q => h c j (dj_ok hd q)
theorem Agree.trans {K : zLs} {m m1 m2 : zM} (h1 : Agree K m m1) (h2 : Agree K m1 m2) : Agree K m m2 := fun c j q => (h2 c j q).trans (h1 c j q)
theorem zFr.sub {S S2 : Nat → Nat → Bool} {m m1 : zM} (h : zFr S m m1) (hs : ∀ c j, S c j = true → S2 c j = true) : zFr S2 m m1 := h.mono (fun c j q => by
  cases hS : S c j with
  | false => rfl
  | true => rw [hs c j hS] at q; cases q)
theorem inL_sub {L K : zLs} (h : L.all (fun q => K.any (fun r => Nat.beq q.1 r.1 && (match r.2 with
  | none => true
  | some y => match q.2 with
    | some x => Nat.beq x y
    | none => false))) = true) : ∀ c j, inL L c j = true → inL K c j = true := by
  intro c j hl
  obtain ⟨q, hq, q1⟩ := List.any_eq_true.mp hl
  obtain ⟨r, hr, r1⟩ := List.any_eq_true.mp (List.all_eq_true.mp h q hq)
  refine List.any_eq_true.mpr ⟨r, hr, ?_⟩
  rw [Bool.and_eq_true] at q1 r1 ⊢
  refine ⟨by rw [← Nat.eq_of_beq_eq_true r1.1]; exact q1.1, ?_⟩
  obtain ⟨qc, qo⟩ := q
  obtain ⟨rc, ro⟩ := r
  rcases ro with _ | y
  · rfl
  · rcases qo with _ | x
    · cases r1.2
    · have f1 := Nat.eq_of_beq_eq_true r1.2
      have f2 := q1.2
      dsimp only at f1 f2 ⊢
      rw [← f1]
      exact f2
theorem lbWL : ∀ c j, lbW c j = true → inL [(74, some 13), (74, some 14), (74, some 15), (74, some 16), (74, some 17), (74, some 26), (74, some 27), (74, some 28), (74, some 29), (74, some 30)] c j = true := by
  intro c j h
  simp only [lbW, Bool.and_eq_true, Bool.or_eq_true] at h
  have e := Nat.eq_of_beq_eq_true h.1
  subst e
  have hj : j = 13 ∨ j = 14 ∨ j = 15 ∨ j = 16 ∨ j = 17 ∨ j = 26 ∨ j = 27 ∨ j = 28 ∨ j = 29 ∨ j = 30 := by
    rcases h.2 with q | q
    · have h1 := Nat.le_of_ble_eq_true q.1
      have h2 := q_blt q.2
      omega
    · have h1 := Nat.le_of_ble_eq_true q.1
      have h2 := q_blt q.2
      omega
  rcases hj with rfl | rfl | rfl | rfl | rfl | rfl | rfl | rfl | rfl | rfl <;> rfl
noncomputable def KT : zLs := [(2, some 1), (3, none), (74, some 9), (80, none)]
noncomputable def KL : zLs := [(4, some 4), (5, none), (6, none), (9, some 4), (10, none), (11, none), (12, none), (74, some 1), (74, some 25), (76, none), (77, none), (86, none)]
noncomputable def KH : zLs := [(17, some 0), (17, some 1), (17, some 10), (17, some 11), (18, none), (19, none), (20, none), (21, none), (22, none), (23, none), (25, some 2), (26, none), (74, some 4), (74, some 6), (75, none), (78, none)]
noncomputable def KM : zLs := [(24, none), (79, none)]
noncomputable def KU : zLs := [(28, some 4), (28, some 5), (30, none), (31, none), (32, none), (33, none), (34, none), (35, none), (36, none), (37, none), (38, none), (39, none), (40, none), (41, none), (42, none), (74, some 35), (87, none)]
noncomputable def KK : zLs := [(44, none), (45, none), (46, none), (47, none), (74, some 62), (106, none), (107, none), (108, none)]
noncomputable def KS : zLs := [(59, some 4), (60, none), (61, none), (62, none), (63, none), (74, some 52), (99, none)]
noncomputable def KJ : zLs := [(64, some 2), (65, none), (66, none), (74, some 54), (100, none)]
noncomputable def KX0 : zLs := [(0, none), (103, none), (110, none)]
noncomputable def KX : zLs := [(0, none), (72, some 1), (73, none), (74, some 11), (81, none), (103, none), (110, none)]
noncomputable def coreK : zLs := KT ++ (KL ++ (KH ++ (KM ++ (KU ++ (KK ++ (KS ++ (KJ ++ KX)))))))
noncomputable def coreK0 : zLs := KT ++ (KL ++ (KH ++ (KM ++ (KU ++ (KK ++ (KS ++ (KJ ++ KX0)))))))
/-- what stands in the row is compared too (p52) -/
noncomputable def fullR : Prop := False
noncomputable def RowP (m : zM) : Prop := m 72 1 = m 74 11 ∧ (fullR → ∀ j : Nat, (j : Int) < m 72 1 → m 73 j = m 81 j)
theorem RowP.len {m : zM} (h : m 72 1 = m 74 11) : RowP m := ⟨h, fun x => x.elim⟩
noncomputable def KRw : zLs := [(72, some 1), (73, none), (74, some 11), (81, none)]
theorem RowP_fr {m m1 : zM} (h : Agree KRw m m1) (r : RowP m) : RowP m1 := by
  have c72 : m1 72 1 = m 72 1 := h 72 1 rfl
  have c73 : m1 73 = m 73 := funext fun j => h 73 j rfl
  have c74 : m1 74 11 = m 74 11 := h 74 11 rfl
  have c81 : m1 81 = m 81 := funext fun j => h 81 j rfl
  unfold RowP
  rw [c72, c73, c74, c81]
  exact r
noncomputable def TextRel (m : zM) : Prop := m 74 9 = m 2 1 ∧ ∀ j : Nat, (j : Int) < m 2 1 → m 3 j = m 80 j % 256
noncomputable def HouseRel (n k : Nat) (m : zM) : Prop := (m 17 0 = (n : Int) ∧ m 74 4 = (n : Int)) ∧ (m 17 1 = (k : Int) ∧ m 74 6 = (k : Int)) ∧ (∀ p, p < n → m 78 p = m 18 p ∧ 1 ≤ m 18 p) ∧ Rel n k m (m 75) ∧ okRow n k (m 75)
noncomputable def TermRel (m : zM) : Prop := ∀ j, j < 3 → m 79 j = m 24 j
noncomputable def slt (m : zM) (i : Nat) : Nat := ((m 28 4).toNat + i) % 13
noncomputable def UndoRel (B : Int) (n k : Nat) (m : zM) : Prop := m 74 35 = m 28 5 ∧ ∀ i : Nat, (i : Int) < m 28 5 → RelM n k (m (30 + slt m i)) (fun j => m 87 (59 * i + j)) ∧ okRow n k (fun j => m 87 (59 * i + j)) ∧ m 87 (59 * i + 57) ≤ B
noncomputable def KeptRel (B : Int) (n k : Nat) (m : zM) : Prop := (0 ≤ m 74 62 ∧ m 74 62 ≤ n + k) ∧ ∀ i, i < 2 → (m 107 i = 0 ∧ m 46 i = -1) ∨ (m 107 i = 1 ∧ ∃ kp kc : Nat, (m 46 i = (kp : Int) ∧ m 47 i = (kc : Int)) ∧ (kp ≤ n ∧ kc ≤ k) ∧ (0 ≤ m 108 i ∧ m 108 i ≤ m 74 62) ∧ (m 108 i = m 74 62 → kp = n ∧ kc = k) ∧ (m 108 i < m 74 62 → kp + kc < n + k) ∧ RelM kp kc (m (44 + i)) (fun j => m 106 (59 * i + j)) ∧ okRow kp kc (fun j => m 106 (59 * i + j)) ∧ m 106 (59 * i + 57) ≤ B)
noncomputable def SeenRel (n : Nat) (m : zM) : Prop := m 74 52 = m 59 4 ∧ ∀ i : Nat, (i : Int) < m 59 4 → m 99 (4 * i) = m 60 i ∧ m 99 (4 * i + 1) = m 61 i ∧ m 99 (4 * i + 2) = m 62 i ∧ m 99 (4 * i + 3) = m 63 i ∧ m 60 i < n
noncomputable def JobRel (m : zM) : Prop := m 74 54 = m 64 2 ∧ ∀ i : Nat, (i : Int) < m 64 2 → m 100 (2 * i) = m 65 i ∧ m 100 (2 * i + 1) = m 66 i ∧ 1 ≤ m 65 i
noncomputable abbrev zSc : Type := (Nat → Int) × Int
noncomputable def ScrRel (sc : zSc) (m : zM) : Prop := m 0 = sc.1 ∧ m 110 0 = sc.2 ∧ (∀ c : Nat, c < 3 → m 103 c = 0) ∧ RowP m
noncomputable def Inv (B : Int) (sc : zSc) (n k : Nat) (m : zM) : Prop := zB m ∧ TextRel m ∧ LawRel m ∧ HouseRel n k m ∧ TermRel m ∧ UndoRel B n k m ∧ KeptRel B n k m ∧ SeenRel n m ∧ JobRel m ∧ m 75 57 ≤ B ∧ ScrRel sc m
section ZInv
variable {B : Int} {sc : zSc} {n k : Nat} {m m1 : zM}
theorem Agree.sub {K K2 : zLs} (h : Agree K m m1) (hs : ∀ q, q ∈ K2 → q ∈ K) : Agree K2 m m1 := fun c j q => h c j (by
  obtain ⟨x, hx, hx2⟩ := List.any_eq_true.mp q
  exact List.any_eq_true.mpr ⟨x, hs x hx, hx2⟩)
theorem Text_fr (h : Agree KT m m1) (i : TextRel m) : TextRel m1 := by
  have s2_1 : m1 2 1 = m 2 1 := h 2 1 rfl
  have c3 : m1 3 = m 3 := funext fun j => h 3 j rfl
  have s74_9 : m1 74 9 = m 74 9 := h 74 9 rfl
  have c80 : m1 80 = m 80 := funext fun j => h 80 j rfl
  unfold TextRel
  rw [s2_1, c3, s74_9, c80]
  exact i
theorem Agree.law (h : Agree KL m m1) : (LawRel m → LawRel m1) ∧ LW m1 = LW m := by
  have hF : zFr (fun c j => !(inL KL c j)) m m1 := fun c j q => h c j (by
    cases hb : inL KL c j with
    | true => rfl
    | false =>
      have q2 : (!inL KL c j) = false := q
      rw [hb] at q2
      cases q2)
  have hS : lawSR (fun c j => !(inL KL c j)) := ⟨⟨rfl, fun _ => rfl, fun _ => rfl, rfl, fun _ => rfl, fun _ => rfl, fun _ => rfl⟩, rfl, rfl, fun _ => rfl, fun _ => rfl, fun _ => rfl⟩
  exact ⟨LawRel_fr hF hS, (LW_fr hF hS.1).1⟩
theorem House_fr (h : Agree KH m m1) (i : HouseRel n k m) : HouseRel n k m1 := by
  have s17_0 : m1 17 0 = m 17 0 := h 17 0 rfl
  have s17_1 : m1 17 1 = m 17 1 := h 17 1 rfl
  have s17_10 : m1 17 10 = m 17 10 := h 17 10 rfl
  have s17_11 : m1 17 11 = m 17 11 := h 17 11 rfl
  have c18 : m1 18 = m 18 := funext fun j => h 18 j rfl
  have c19 : m1 19 = m 19 := funext fun j => h 19 j rfl
  have c20 : m1 20 = m 20 := funext fun j => h 20 j rfl
  have c21 : m1 21 = m 21 := funext fun j => h 21 j rfl
  have c22 : m1 22 = m 22 := funext fun j => h 22 j rfl
  have c23 : m1 23 = m 23 := funext fun j => h 23 j rfl
  have s25_2 : m1 25 2 = m 25 2 := h 25 2 rfl
  have c26 : m1 26 = m 26 := funext fun j => h 26 j rfl
  have s74_4 : m1 74 4 = m 74 4 := h 74 4 rfl
  have s74_6 : m1 74 6 = m 74 6 := h 74 6 rfl
  have c75 : m1 75 = m 75 := funext fun j => h 75 j rfl
  have c78 : m1 78 = m 78 := funext fun j => h 78 j rfl
  unfold HouseRel Rel
  rw [s17_0, s17_1, s17_10, s17_11, c18, c19, c20, c21, c22, c23, s25_2, c26, s74_4, s74_6, c75, c78]
  exact i
theorem Term_fr (h : Agree KM m m1) (i : TermRel m) : TermRel m1 := by
  have c24 : m1 24 = m 24 := funext fun j => h 24 j rfl
  have c79 : m1 79 = m 79 := funext fun j => h 79 j rfl
  unfold TermRel
  rw [c24, c79]
  exact i
theorem Agree.mom (h : Agree KU m m1) {x : Nat} (hx : x < 13) : m1 (30 + x) = m (30 + x) := by
  funext j
  refine h _ j ?_
  match x, hx with
  | 0, _ => rfl
  | 1, _ => rfl
  | 2, _ => rfl
  | 3, _ => rfl
  | 4, _ => rfl
  | 5, _ => rfl
  | 6, _ => rfl
  | 7, _ => rfl
  | 8, _ => rfl
  | 9, _ => rfl
  | 10, _ => rfl
  | 11, _ => rfl
  | 12, _ => rfl
theorem Undo_fr (h : Agree KU m m1) (i6 : UndoRel B n k m) : UndoRel B n k m1 := by
  have s284 : m1 28 4 = m 28 4 := h 28 4 rfl
  have s285 : m1 28 5 = m 28 5 := h 28 5 rfl
  have s7435 : m1 74 35 = m 74 35 := h 74 35 rfl
  have c87 : m1 87 = m 87 := funext fun j => h 87 j rfl
  refine ⟨by rw [s7435, s285]; exact i6.1, fun i hi => ?_⟩
  rw [s285] at hi
  have e : slt m1 i = slt m i := by
    unfold slt
    rw [s284]
  have hsl : slt m i < 13 := by
    unfold slt
    omega
  rw [e, h.mom hsl, c87]
  exact i6.2 i hi
theorem Kept_fr (h : Agree KK m m1) (i7 : KeptRel B n k m) : KeptRel B n k m1 := by
  have c44 : m1 44 = m 44 := funext fun j => h 44 j rfl
  have c45 : m1 45 = m 45 := funext fun j => h 45 j rfl
  have c46 : m1 46 = m 46 := funext fun j => h 46 j rfl
  have c47 : m1 47 = m 47 := funext fun j => h 47 j rfl
  have s7462 : m1 74 62 = m 74 62 := h 74 62 rfl
  have c106 : m1 106 = m 106 := funext fun j => h 106 j rfl
  have c107 : m1 107 = m 107 := funext fun j => h 107 j rfl
  have c108 : m1 108 = m 108 := funext fun j => h 108 j rfl
  refine ⟨by rw [s7462]; exact i7.1, fun i hi => ?_⟩
  have e : m1 (44 + i) = m (44 + i) := by
    rcases Nat.lt_or_ge i 1 with q | q
    · have : i = 0 := by omega
      subst this
      exact c44
    · have : i = 1 := by omega
      subst this
      exact c45
  rw [s7462, c107, c46, c47, c108, e, c106]
  exact i7.2 i hi
theorem Seen_fr (h : Agree KS m m1) (i : SeenRel n m) : SeenRel n m1 := by
  have s59_4 : m1 59 4 = m 59 4 := h 59 4 rfl
  have c60 : m1 60 = m 60 := funext fun j => h 60 j rfl
  have c61 : m1 61 = m 61 := funext fun j => h 61 j rfl
  have c62 : m1 62 = m 62 := funext fun j => h 62 j rfl
  have c63 : m1 63 = m 63 := funext fun j => h 63 j rfl
  have s74_52 : m1 74 52 = m 74 52 := h 74 52 rfl
  have c99 : m1 99 = m 99 := funext fun j => h 99 j rfl
  unfold SeenRel
  rw [s59_4, c60, c61, c62, c63, s74_52, c99]
  exact i
theorem Job_fr (h : Agree KJ m m1) (i : JobRel m) : JobRel m1 := by
  have s64_2 : m1 64 2 = m 64 2 := h 64 2 rfl
  have c65 : m1 65 = m 65 := funext fun j => h 65 j rfl
  have c66 : m1 66 = m 66 := funext fun j => h 66 j rfl
  have s74_54 : m1 74 54 = m 74 54 := h 74 54 rfl
  have c100 : m1 100 = m 100 := funext fun j => h 100 j rfl
  unfold JobRel
  rw [s64_2, c65, c66, s74_54, c100]
  exact i
theorem Scr_fr (h : Agree KX m m1) (i : ScrRel sc m) : ScrRel sc m1 := by
  have c0 : m1 0 = m 0 := funext fun j => h 0 j rfl
  have c103 : m1 103 = m 103 := funext fun j => h 103 j rfl
  have c110 : m1 110 0 = m 110 0 := h 110 0 rfl
  have c72 : m1 72 1 = m 72 1 := h 72 1 rfl
  have c73 : m1 73 = m 73 := funext fun j => h 73 j rfl
  have c74 : m1 74 11 = m 74 11 := h 74 11 rfl
  have c81 : m1 81 = m 81 := funext fun j => h 81 j rfl
  unfold ScrRel RowP
  rw [c0, c103, c110, c72, c73, c74, c81]
  exact i
theorem Now_fr (h : Agree KH m m1) (i : m 75 57 ≤ B) : m1 75 57 ≤ B := by
  rw [show m1 75 57 = m 75 57 from h 75 57 rfl]
  exact i
theorem Inv_fr (h : Agree coreK m m1) (hB : zB m1) (hI : Inv B sc n k m) : Inv B sc n k m1 := by
  obtain ⟨_, i2, i3, i4, i5, i6, i7, i8, i9, i10, i11⟩ := hI
  have sb : ∀ {K : zLs}, (∀ q, q ∈ K → q ∈ coreK) → Agree K m m1 := fun hs => h.sub hs
  have m1' : ∀ {L1 L2 : zLs} {q : Nat × Option Nat}, q ∈ L1 → q ∈ L1 ++ L2 := fun q => List.mem_append.mpr (Or.inl q)
  have m2' : ∀ {L1 L2 : zLs} {q : Nat × Option Nat}, q ∈ L2 → q ∈ L1 ++ L2 := fun q => List.mem_append.mpr (Or.inr q)
  exact ⟨hB, Text_fr (sb (fun q hq => m1' hq)) i2, (sb (fun q hq => m2' (m1' hq))).law.1 i3, House_fr (sb (fun q hq => m2' (m2' (m1' hq)))) i4, Term_fr (sb (fun q hq => m2' (m2' (m2' (m1' hq))))) i5, Undo_fr (sb (fun q hq => m2' (m2' (m2' (m2' (m1' hq)))))) i6, Kept_fr (sb (fun q hq => m2' (m2' (m2' (m2' (m2' (m1' hq))))))) i7, Seen_fr (sb (fun q hq => m2' (m2' (m2' (m2' (m2' (m2' (m1' hq)))))))) i8, Job_fr (sb (fun q hq => m2' (m2' (m2' (m2' (m2' (m2' (m2' (m1' hq))))))))) i9, Now_fr (sb (fun q hq => m2' (m2' (m1' hq)))) i10, Scr_fr (sb (fun q hq => m2' (m2' (m2' (m2' (m2' (m2' (m2' (m2' hq))))))))) i11⟩
theorem Agree.w0 (h : Agree coreK m m1) : Agree coreK0 m m1 := fun c j q => h c j (inL_sub (L := coreK0) (K := coreK) (by decide) c j q)
/-- a row has been told -/
theorem Inv_row (h : Agree coreK0 m m1) (hB : zB m1) (hr : RowP m1) (hI : Inv B sc n k m) : Inv B sc n k m1 := by
  obtain ⟨_, i2, i3, i4, i5, i6, i7, i8, i9, i10, i11⟩ := hI
  have sb : ∀ {K : zLs}, (∀ q, q ∈ K → q ∈ coreK0) → Agree K m m1 := fun hs => h.sub hs
  have m1' : ∀ {L1 L2 : zLs} {q : Nat × Option Nat}, q ∈ L1 → q ∈ L1 ++ L2 := fun q => List.mem_append.mpr (Or.inl q)
  have m2' : ∀ {L1 L2 : zLs} {q : Nat × Option Nat}, q ∈ L2 → q ∈ L1 ++ L2 := fun q => List.mem_append.mpr (Or.inr q)
  exact ⟨hB, Text_fr (sb (fun q hq => m1' hq)) i2, (sb (fun q hq => m2' (m1' hq))).law.1 i3, House_fr (sb (fun q hq => m2' (m2' (m1' hq)))) i4, Term_fr (sb (fun q hq => m2' (m2' (m2' (m1' hq))))) i5, Undo_fr (sb (fun q hq => m2' (m2' (m2' (m2' (m1' hq)))))) i6, Kept_fr (sb (fun q hq => m2' (m2' (m2' (m2' (m2' (m1' hq))))))) i7, Seen_fr (sb (fun q hq => m2' (m2' (m2' (m2' (m2' (m2' (m1' hq)))))))) i8, Job_fr (sb (fun q hq => m2' (m2' (m2' (m2' (m2' (m2' (m2' (m1' hq))))))))) i9, Now_fr (sb (fun q hq => m2' (m2' (m1' hq)))) i10, (funext fun j => h 0 j rfl).trans i11.1, (h 110 0 rfl).trans i11.2.1, fun c hc => (h 103 c rfl).trans (i11.2.2.1 c hc), hr⟩
/-- more WEEKS may have gone by -/
theorem Inv.up {B2 : Int} (hI : Inv B sc n k m) (h : B ≤ B2) : Inv B2 sc n k m := by
  obtain ⟨i1, i2, i3, i4, i5, i6, i7, i8, i9, i10, i11⟩ := hI
  refine ⟨i1, i2, i3, i4, i5, ⟨i6.1, fun i hi => ?_⟩, ⟨i7.1, fun i hi => ?_⟩, i8, i9, by omega, i11⟩
  · obtain ⟨a1, a2, a3⟩ := i6.2 i hi
    exact ⟨a1, a2, by omega⟩
  · rcases i7.2 i hi with q | ⟨q1, kp, kc, a1, a2, a3, a4, a5, a6, a7, a8⟩
    · exact Or.inl q
    · exact Or.inr ⟨q1, kp, kc, a1, a2, a3, a4, a5, a6, a7, by omega⟩
end ZInv
/-- a call of the class and the reference's behind it: what holds stays, the answers are the same -/
noncomputable def Way (T : Nat → Nat → zG → (Option zA → zM → Prop) → Prop) (kC kR : Nat) (aC aR : zL) (dC dR : Nat) (B B2 : Int) (same : Prop) : Prop := ∀ (D : Nat) (m : zM) (sc : zSc), (∃ n k, Inv B sc n k m) → ∀ κ : Option zA → zM → Prop, (∀ r m1, (∀ (D2 : Nat) (κ2 : Option zA → zM → Prop), (∀ r2 m2, (same → r = r2) → (∃ n k, Inv B2 sc n k m2) → κ2 r2 m2) → T (D2 + dR) kR (0, aR, [], m1) κ2) → κ r m1) → T (D + dC) kC (0, aC, [], m) κ
noncomputable abbrev isI (v : Int) : Prop := -2147483648 ≤ v ∧ v ≤ 2147483647
