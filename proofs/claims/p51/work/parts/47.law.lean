/-! THE RULE by the class: parts, one behind the other; LAW. -/
noncomputable abbrev zEnv : Type := Int × Int × Int × Int × Int
noncomputable def joinV (kd a b : Int) : Int := if kd = 42 then a * b else if kd = 43 then a + b else if kd = 45 then a - b else if kd = 47 then (if wr b = 0 then 0 else Int.tdiv (wr a) (wr b)) else if kd = 60 then (if wr a < wr b then 1 else 0) else if kd = 61 then (if wr a = wr b then 1 else 0) else if kd = 62 then (if wr b < wr a then 1 else 0) else -a
/-- an operation, not a thing -/
noncomputable def isOp (kd : Int) : Prop := ¬ kd = 48 ∧ ¬ kd = 104 ∧ ¬ kd = 105 ∧ ¬ kd = 108 ∧ ¬ kd = 112 ∧ ¬ kd = 119
/-- e: height, light, week, place, person -/
noncomputable def nodeV (kd lf rg : Int) (f : Nat → Int) (e : zEnv) : Int := if kd = 48 then lf else if kd = 104 then e.1 else if kd = 105 then e.2.2.2.2 else if kd = 108 then e.2.1 else if kd = 112 then e.2.2.2.1 else if kd = 119 then e.2.2.1 else wr (joinV kd (f lf.toNat) (f rg.toNat))
noncomputable def valsN (kd lf rg g : Nat → Int) (e : zEnv) : Nat → Nat → Int
  | 0 => g
  | n + 1 => fu (valsN kd lf rg g e n) n (nodeV (kd n) (lf n) (rg n) (valsN kd lf rg g e n) e)
/-- parts are made of parts ahead of them -/
noncomputable def WFp (kd lf rg : Nat → Int) (n : Nat) : Prop := ∀ k, k < n → isOp (kd k) → (0 ≤ lf k ∧ lf k < k) ∧ (0 ≤ rg k ∧ rg k < k)
theorem valsN_g {kd lf rg g g2 : Nat → Int} {e : zEnv} {n : Nat} (h : WFp kd lf rg n) : ∀ t, t ≤ n → ∀ k, k < t → valsN kd lf rg g e t k = valsN kd lf rg g2 e t k := by
  intro t
  induction t with
  | zero => intro _ k hk; omega
  | succ t ih =>
    intro ht k hk
    rw [valsN, valsN]
    by_cases ek : k = t
    · rw [fu_eq ek, fu_eq ek]
      unfold nodeV
      by_cases h1 : kd t = 48
      · rw [if_pos h1, if_pos h1]
      · by_cases h2 : kd t = 104
        · rw [if_neg h1, if_neg h1, if_pos h2, if_pos h2]
        · by_cases h3 : kd t = 105
          · rw [if_neg h1, if_neg h1, if_neg h2, if_neg h2, if_pos h3, if_pos h3]
          · by_cases h4 : kd t = 108
            · rw [if_neg h1, if_neg h1, if_neg h2, if_neg h2, if_neg h3, if_neg h3, if_pos h4, if_pos h4]
            · by_cases h5 : kd t = 112
              · rw [if_neg h1, if_neg h1, if_neg h2, if_neg h2, if_neg h3, if_neg h3, if_neg h4, if_neg h4, if_pos h5, if_pos h5]
              · by_cases h6 : kd t = 119
                · rw [if_neg h1, if_neg h1, if_neg h2, if_neg h2, if_neg h3, if_neg h3, if_neg h4, if_neg h4, if_neg h5, if_neg h5, if_pos h6, if_pos h6]
                · obtain ⟨q1, q2⟩ := h t (by omega) ⟨h1, h2, h3, h4, h5, h6⟩
                  rw [ih (by omega) (lf t).toNat (by omega), ih (by omega) (rg t).toNat (by omega)]
    · rw [fu_ne ek, fu_ne ek]
      exact ih (by omega) k (by omega)
noncomputable def ruleV (m : zM) (e : zEnv) : Int := if m 9 4 < 1 then Int.tdiv (e.1 * e.2.1) 10 else wr (valsN (m 10) (m 11) (m 12) (fun _ => 0) e (m 9 4).toNat ((m 9 4).toNat - 1))
noncomputable def cl99 (v : Int) : Int := if wr v < 99 then (if 0 < wr v then wr v else 0) else 99
theorem cl99B (v : Int) : 0 ≤ cl99 v ∧ cl99 v ≤ 99 := by
  unfold cl99
  split
  · split <;> omega
  · omega
/-- LIGHT at a PLACE that has one -/
noncomputable def lgt (m : zM) (p : Nat) (w : Int) : Int := m 5 ((p : Int) * 26 + Int.tmod w (m 6 p)).toNat
/-- LAW -/
noncomputable def LW (m : zM) (h i : Int) (p : Nat) (w : Int) : Int := if (p : Int) < m 4 4 then cl99 (ruleV m (h, lgt m p w, w, (p : Int), i)) else 0
theorem LWB {m : zM} {h i w : Int} {p : Nat} : 0 ≤ LW m h i p w ∧ LW m h i p w ≤ 99 := by
  unfold LW
  split
  · exact cl99B _
  · omega
/-- what must hold of ALMANACS and THE RULE -/
noncomputable def WFr (m : zM) : Prop := (∀ p : Nat, (p : Int) < m 4 4 → 1 ≤ m 6 p) ∧ WFp (m 10) (m 11) (m 12) (m 9 4).toNat
/-- such changes leave LAW as it is -/
noncomputable def lawS (S : Nat → Nat → Bool) : Prop := S 4 4 = false ∧ (∀ j, S 5 j = false) ∧ (∀ j, S 6 j = false) ∧ S 9 4 = false ∧ (∀ j, S 10 j = false) ∧ (∀ j, S 11 j = false) ∧ (∀ j, S 12 j = false)
theorem LW_fr {S : Nat → Nat → Bool} {m m1 : zM} (h : zFr S m m1) (hS : lawS S) : LW m1 = LW m ∧ (WFr m → WFr m1) := by
  obtain ⟨s1, s2, s3, s4, s5, s6, s7⟩ := hS
  have e1 := h 4 4 s1
  have e2 : m1 5 = m 5 := funext fun j => h 5 j (s2 j)
  have e3 : m1 6 = m 6 := funext fun j => h 6 j (s3 j)
  have e4 := h 9 4 s4
  have e5 : m1 10 = m 10 := funext fun j => h 10 j (s5 j)
  have e6 : m1 11 = m 11 := funext fun j => h 11 j (s6 j)
  have e7 : m1 12 = m 12 := funext fun j => h 12 j (s7 j)
  refine ⟨?_, ?_⟩
  · funext hh i p w
    unfold LW ruleV lgt
    rw [e1, e2, e3, e4, e5, e6, e7]
  · unfold WFr
    rw [e1, e3, e4, e5, e6, e7]
    exact id
/-- the sign where the reference reads; where the class does -/
noncomputable def hrR (m : zM) (q : Nat) : Int := if m 74 16 < m 74 14 ∧ m 74 16 < m 74 15 then z_and (m q (m 74 16).toNat) 255 else -1
theorem hrRB (m : zM) (q : Nat) : -1 ≤ hrR m q ∧ hrR m q ≤ 255 := by
  unfold hrR
  split
  · have h : 0 ≤ z_and (m q (m 74 16).toNat) 255 ∧ z_and (m q (m 74 16).toNat) 255 ≤ 255 := z_andC (m q (m 74 16).toNat) 255 (by decide)
    omega
  · omega
noncomputable def nxC (m : zM) : Int := if m 2 3 < m 2 2 then m 3 (m 2 3).toNat else -1
theorem nxCBo (m : zM) (h : ∀ j, zbd 3 j (m 3 j)) : -1 ≤ nxC m ∧ nxC m ≤ 65535 := by
  unfold nxC
  split
  · have : 0 ≤ m 3 (m 2 3).toNat ∧ m 3 (m 2 3).toNat ≤ 65535 := h _
    omega
  · omega
section ZLaw
variable {T : Nat → Nat → zG → (Option zA → zM → Prop) → Prop} {D : Nat} {κ : Option zA → zM → Prop} {m : zM}
set_option maxHeartbeats 4000000 in
theorem z_joined (hT : zRules T) {kd a b : Int} (hB : zB m) (hk : -1 ≤ kd ∧ kd ≤ 65535) (h : κ (some (zi (wr (joinV kd a b)))) m) : T (D + 1) 59 (0, [(0, zi kd), (1, zi a), (2, zi b)], [], m) κ := by
  refine zb59_0 hT hB hk ?_ ?_ ?_ ?_ ?_ ?_ ?_ ?_ ?_ ?_ ?_ ?_ ?_ ?_ ?_ ?_ ?_ ?_ ?_ ?_ ?_ ?_ ?_ ?_ ?_ ?_
  all_goals
    intros
    unfold joinV at h
  · rw [if_pos (by assumption)] at h; exact h
  · rw [if_neg (by assumption), if_pos (by assumption)] at h; exact h
  · simp (disch := omega) only [if_neg] at h; exact h
  · simp (disch := omega) only [if_neg, if_pos] at h; exact h
  · simp (disch := omega) only [if_neg] at h; exact h
  · simp (disch := omega) only [if_neg, if_pos] at h; exact h
  · simp (disch := omega) only [if_neg, if_pos] at h; exact h
  · simp (disch := omega) only [if_neg] at h; exact h
  · simp (disch := omega) only [if_neg] at h; exact h
  · simp (disch := omega) only [if_neg] at h; exact h
  · simp (disch := omega) only [if_neg] at h; exact h
  · simp (disch := omega) only [if_neg] at h; exact h
  · simp (disch := omega) only [if_neg] at h; exact h
  · simp (disch := omega) only [if_neg] at h; exact h
  · simp (disch := omega) only [if_neg] at h; exact h
  · simp (disch := omega) only [if_neg] at h; exact h
  · simp (disch := omega) only [if_neg] at h; exact h
  · simp (disch := omega) only [if_neg] at h; exact h
  · simp (disch := omega) only [if_neg] at h; exact h
  · simp (disch := omega) only [if_neg, if_pos] at h; exact h
  · simp (disch := omega) only [if_neg, if_pos] at h; exact h
  · simp (disch := omega) only [if_neg, if_pos] at h; exact h
  · simp (disch := omega) only [if_neg, if_pos] at h; exact h
  · simp (disch := omega) only [if_neg, if_pos] at h; exact h
  · simp (disch := omega) only [if_neg, if_pos] at h; exact h
  · simp (disch := omega) only [if_neg] at h; exact h
theorem z_valueFor (hT : zRules T) {h l w p i : Int} (hB : zB m) (hh : 0 ≤ h ∧ h ≤ 99) (hl : 0 ≤ l ∧ l ≤ 9) (hw : 0 ≤ w ∧ w ≤ 500000) (hp : 0 ≤ p ∧ p ≤ 3) (hi : 0 ≤ i ∧ i ≤ 5) (hWF : WFp (m 10) (m 11) (m 12) (m 9 4).toNat)
    (hk : ∀ m1, zB m1 → zFr (rowW 13) m m1 → κ (some (zi (ruleV m (h, l, w, p, i)))) m1) : T (D + 2) 58 (0, [(0, zr 9), (1, zi h), (2, zi l), (3, zi w), (4, zi p), (5, zi i)], [], m) κ := by
  have h94 : 0 ≤ m 9 4 ∧ m 9 4 ≤ 40 := hB 9 4
  obtain ⟨n, hn⟩ : ∃ n : Nat, m 9 4 = (n : Int) := ⟨(m 9 4).toNat, by omega⟩
  have en : (m 9 4).toNat = n := by omega
  rw [en] at hWF
  refine zb58_0 hT hB hh hl hw hp hi (fun hne => ?_) (fun he => ?_)
  · have key : ∀ (j k : Nat) (M : zM), k + j = n → zB M → (∀ c, c ≠ 13 → M c = m c) → M 13 = valsN (m 10) (m 11) (m 12) (m 13) (h, l, w, p, i) k → T (D + 2) 58 (18, [(0, zr 9), (1, zi h), (2, zi l), (3, zi w), (4, zi p), (5, zi i), (6, zi (k : Int))], [], M) κ := by
      intro j
      induction j with
      | zero =>
        intro k M hkj hBM hM h13
        have e94 : M 9 4 = m 9 4 := by rw [hM 9 (by omega)]
        refine zb58_18 hT rfl hBM hh hl hw hp hi (by omega) (fun _ => by omega) (fun _ => ?_) (fun q => by omega) (fun q => by omega) (fun q => by omega) (fun q => by omega) (fun q => by omega) (fun q => by omega) (fun q => by omega) (fun q => by omega)
        have ek : k = n := by omega
        have hf := hk M hBM (fun c j hc => by rw [hM c (Nat.ne_of_beq_eq_false hc)])
        unfold ruleV at hf
        rw [if_neg hne, en] at hf
        rw [e94, h13, ek, show (m 9 4 - 1).toNat = n - 1 by omega, valsN_g (g2 := fun _ => 0) hWF n (Nat.le_refl n) (n - 1) (by omega)]
        exact hf
      | succ j ih =>
        intro k M hkj hBM hM h13
        have e94 : M 9 4 = m 9 4 := by rw [hM 9 (by omega)]
        have e10 : M 10 k = m 10 k := by rw [hM 10 (by omega)]
        have e11 : M 11 k = m 11 k := by rw [hM 11 (by omega)]
        have e12 : M 12 k = m 12 k := by rw [hM 12 (by omega)]
        have b10 : -1 ≤ m 10 k ∧ m 10 k ≤ 65535 := hB 10 k
        have nxt : ∀ v : Int, nodeV (m 10 k) (m 11 k) (m 12 k) (valsN (m 10) (m 11) (m 12) (m 13) (h, l, w, p, i) k) (h, l, w, p, i) = v → T (D + 2) 58 (18, [(0, zr 9), (1, zi h), (2, zi l), (3, zi w), (4, zi p), (5, zi i), (6, zi ((k : Int) + 1))], [], zu M 13 k v) κ := by
          intro v hv
          refine ih (k + 1) (zu M 13 k v) (by omega) (zB_u hBM trivial) (fun c hc => ?_) ?_
          · rw [zu_dnR hc]
            exact hM c hc
          · rw [zu_row, h13, valsN, hv]
        refine zb58_18 hT rfl hBM hh hl hw hp hi (by omega) (fun q => by omega) (fun q => by omega) (fun _ q _ => ?_) (fun _ q1 q _ => ?_) (fun _ q1 q2 q _ => ?_) (fun _ q1 q2 q3 q _ => ?_) (fun _ q1 q2 q3 q4 q _ => ?_) (fun _ q1 q2 q3 q4 q5 q _ => ?_) (fun _ q1 q2 q3 q4 q5 q6 => ?_) (fun _ q1 q2 q3 q4 q5 q6 => ?_)
        · rw [e10] at q
          rw [e11]
          refine nxt _ ?_
          unfold nodeV
          rw [if_pos q]
        · rw [e10] at q q1
          refine nxt _ ?_
          unfold nodeV
          rw [if_neg q1, if_pos q]
        · rw [e10] at q q1 q2
          refine nxt _ ?_
          unfold nodeV
          rw [if_neg q1, if_neg q2, if_pos q]
        · rw [e10] at q q1 q2 q3
          refine nxt _ ?_
          unfold nodeV
          rw [if_neg q1, if_neg q2, if_neg q3, if_pos q]
        · rw [e10] at q q1 q2 q3 q4
          refine nxt _ ?_
          unfold nodeV
          rw [if_neg q1, if_neg q2, if_neg q3, if_neg q4, if_pos q]
        · rw [e10] at q q1 q2 q3 q4 q5
          refine nxt _ ?_
          unfold nodeV
          rw [if_neg q1, if_neg q2, if_neg q3, if_neg q4, if_neg q5, if_pos q]
        · rw [e10] at q1 q2 q3 q4 q5 q6
          have hw9 := hWF k (by omega) ⟨q1, q2, q3, q4, q5, q6⟩
          rw [e11]
          omega
        · rw [e10] at q1 q2 q3 q4 q5 q6
          have hw9 := hWF k (by omega) ⟨q1, q2, q3, q4, q5, q6⟩
          rw [e10, e11, e12]
          refine z_joined hT hBM b10 ?_
          refine zb58_206 hT rfl hBM hh hl hw hp hi (by omega) (fun _ => ?_)
          refine nxt _ ?_
          unfold nodeV
          rw [if_neg q1, if_neg q2, if_neg q3, if_neg q4, if_neg q5, if_neg q6, h13]
    exact key n 0 m (by omega) hB (fun c _ => rfl) rfl
  · have hf := hk m hB zFr.refl
    unfold ruleV at hf
    rw [if_pos he] at hf
    exact hf
theorem z_lawFor (hT : zRules T) {h i w : Int} {p : Nat} (hB : zB m) (hh : 0 ≤ h ∧ h ≤ 99) (hi : 0 ≤ i ∧ i ≤ 5) (hp : p ≤ 3) (hw : 0 ≤ w ∧ w ≤ 500000) (hWF : WFr m)
    (hk : ∀ m1, zB m1 → zFr (rowW 13) m m1 → κ (some (zi (LW m h i p w))) m1) : T (D + 3) 170 (0, [(0, zr 1), (1, zi h), (2, zi i), (3, zi (p : Int)), (4, zi w)], [], m) κ := by
  by_cases hpl : (p : Int) < m 4 4
  · have h6 : 0 ≤ m 6 p ∧ m 6 p ≤ 26 := hB 6 p
    have hf := hWF.1 p hpl
    have e : LW m h i p w = cl99 (ruleV m (h, lgt m p w, w, (p : Int), i)) := if_pos hpl
    refine zb170_0a hT hB hh hi hp hw ⟨hf, h6.2⟩ (fun q => absurd hpl q) (fun _ => ?_)
    refine z_valueFor hT hB hh (hB 5 _) hw (by omega) hi hWF.2 (fun m1 hB1 hF => ?_)
    rw [e] at hk
    refine zb170_34 hT rfl hB1 (fun q1 q2 => ?_) (fun q1 q2 => ?_) (fun q1 => ?_)
    · have := hk m1 hB1 hF
      unfold cl99 lgt at this
      rw [if_pos q1, if_pos q2] at this
      exact this
    · have := hk m1 hB1 hF
      unfold cl99 lgt at this
      rw [if_pos q1, if_neg q2] at this
      exact this
    · have := hk m1 hB1 hF
      unfold cl99 lgt at this
      rw [if_neg q1] at this
      exact this
  · have e : LW m h i p w = 0 := if_neg hpl
    rw [e] at hk
    exact zb170_0b hT hB hh hi hp hw (fun _ => hk m hB zFr.refl) (fun q => absurd q hpl) (fun q => absurd q hpl) (fun q => absurd q hpl)
theorem z_here80 (hT : zRules T) (hrd : m 74 13 = 80) (h16 : 0 ≤ m 74 16 ∧ m 74 16 ≤ 1000) (h14 : 0 ≤ m 74 14 ∧ m 74 14 ≤ 80) (h15 : 0 ≤ m 74 15 ∧ m 74 15 ≤ 80) (h : κ (some (zi (hrR m 80))) m) : T D 198 (0, [(0, zr 74)], [], m) κ := by
  unfold hrR at h
  refine zb198_0_80 hT hrd h16 h14 h15 (fun q1 => ?_) (fun q1 q2 => ?_) (fun q1 q2 => ?_)
  · rw [if_neg (fun q => q1 q.1)] at h; exact h
  · rw [if_neg (fun q => q2 q.2)] at h; exact h
  · rw [if_pos ⟨q1, q2⟩] at h; exact h
theorem z_here86 (hT : zRules T) (hrd : m 74 13 = 86) (h16 : 0 ≤ m 74 16 ∧ m 74 16 ≤ 1000) (h14 : 0 ≤ m 74 14 ∧ m 74 14 ≤ 80) (h15 : 0 ≤ m 74 15 ∧ m 74 15 ≤ 40) (h : κ (some (zi (hrR m 86))) m) : T D 198 (0, [(0, zr 74)], [], m) κ := by
  unfold hrR at h
  refine zb198_0_86 hT hrd h16 h14 h15 (fun q1 => ?_) (fun q1 q2 => ?_) (fun q1 q2 => ?_)
  · rw [if_neg (fun q => q1 q.1)] at h; exact h
  · rw [if_neg (fun q => q2 q.2)] at h; exact h
  · rw [if_pos ⟨q1, q2⟩] at h; exact h
theorem z_next (hT : zRules T) (hs : ∀ j, zbd 3 j (m 3 j)) (h3 : 0 ≤ m 2 3 ∧ m 2 3 ≤ 1000) (h2 : 0 ≤ m 2 2 ∧ m 2 2 ≤ 80) (h : κ (some (zi (nxC m))) m) : T D 69 (0, [(0, zr 2)], [], m) κ := by
  unfold nxC at h
  refine zb69_0 hT h3 h2 (fun q1 => ?_) (fun q1 => ?_)
  · rw [if_neg q1] at h; exact h
  · have hb : 0 ≤ m 3 (m 2 3).toNat ∧ m 3 (m 2 3).toNat ≤ 65535 := hs _
    rw [if_pos q1] at h
    rw [wr_id (by omega) (by omega)]
    exact h
end ZLaw
