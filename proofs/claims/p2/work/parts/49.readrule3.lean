section RR3
variable {l : Launch} {dC : Nat → ClassId} {dI : Nat → Nat → Nat} {dA : FieldType → ClassId} {Hb : Heap} {ad : Nat → Nat}
theorem s_noS {h : sH} {ids : List Nat} (hn : s_no h ids = true) : ∀ k ∈ ids, ∀ z ∈ h, z.1 ≠ k := fun k hk => s_hasF (by have := List.all_eq_true.mp hn k hk; simpa using this)
theorem s_cp5S {rv : List Int} {E : sE} {st r : List sA} {q1 q0 : Nat} {n : sF} {vs : List Value} (h : s_cp5 E st q1 q0 = some (n, r)) (hE : q_E rv E) (hst : q_L rv ad st vs) : s_cats r ≤ 8 ∧ ∃ (xn xd xs : Int32) (vr : List Value), vs = .int xn :: .int xd :: .ref (ad q1) :: .int xs :: .ref (ad q0) :: vr ∧ q_L rv ad r vr ∧ s_val rv n = some xn.toInt ∧ (0 ≤ xn.toInt ∧ xn.toInt ≤ 40) ∧ xd = 0 ∧ xs = 0 := by
  unfold s_cp5 at h
  split at h
  · rename_i n' d a sp c r'
    obtain ⟨hb, h⟩ := q_bif h
    cases h
    rw [Bool.and_eq_true, Bool.and_eq_true, Bool.and_eq_true, Bool.and_eq_true, Bool.and_eq_true] at hb
    obtain ⟨⟨⟨⟨⟨b1, b2⟩, b3⟩, b4⟩, b5⟩, b6⟩ := hb
    have e1 := Nat.eq_of_beq_eq_true b1
    have e2 := Nat.eq_of_beq_eq_true b2
    subst e1
    subst e2
    obtain ⟨w1, vs1, rfl, ⟨xn, rfl, hn⟩, w2, vs2, rfl, ⟨xd, rfl, hd⟩, w3, vs3, rfl, hw3, w4, vs4, rfl, ⟨xs, rfl, hs⟩, w5, vs5, rfl, hw5, hst'⟩ := hst
    have e3 : w3 = .ref (ad a) := hw3
    have e5 : w5 = .ref (ad c) := hw5
    subst e3
    subst e5
    refine ⟨Nat.le_of_ble_eq_true b6, xn, xd, xs, vs5, rfl, hst', hn, s_inIS hE hn b5, ?_, ?_⟩
    · rw [s_eqF_eq b3, s_numS] at hd
      exact Int32.toInt_inj.mp (Option.some.inj hd).symm
    · rw [s_eqF_eq b4, s_numS] at hs
      exact Int32.toInt_inj.mp (Option.some.inj hs).symm
  · cases h
/-- a copy into a cell that isn't named -/
theorem q_copyU {p : Program} {e : Env} {R : Room} {s : State} {m : MethodId} {args : Array Value} {below : List Frame} {meth : Method} {c : Code} {Q : State → Prop} {rv : List Int} {H0 H : Heap} {locs : List Loc} {k pc q1 q0 : Nat} {lo : sL} {st r : List sA} {E : sE} {h h' : sH} {ls : Array Slot} {vs : List Value} {n : sF} {g0 g1 : Nat → Int32} {ci nx a2 a3 : Nat} {z : Int}
    (C : q_Ctx p R s m args meth c dC dI dA Hb k) (hi : ins k pc = some (.invokestatic ci, nx, 901, a2, a3, z)) (F : q_Fr dC dI dA rv ad Hb H0 (mL k) (pc, lo, st, E, h) ls vs H locs) (hf : E.1 = false) (hcp : s_cp5 E st q1 q0 = some (n, r)) (h0 : H[ad q0]? = some (vp_cell (dA .int) (40, .inl g0))) (h1 : H[ad q1]? = some (vp_cell (dA .int) (40, .inl g1))) (hb1 : Hb.size ≤ ad q1) (hs : ∀ x ∈ h', x ∈ h) (hn1 : ∀ x ∈ h', ad x.1 ≠ ad q1)
    (kk : ∀ (H1 : Heap) (vr : List Value) (locs1 : List Loc) (nv : Nat), s_val rv n = some (nv : Int) → nv ≤ 40 → H1.size = H.size → (∀ q : Nat, q ≠ ad q1 → H1[q]? = H[q]?) → H1[ad q1]? = some (vp_cell (dA .int) (40, .inl (va_cpy g0 g1 0 0 nv))) → q_Fr dC dI dA rv ad Hb H1 (mL k) (nx, lo, r, E, h') ls vr H1 locs1 → W p l e R s m args below meth c H1 locs1 0 0 Q (F0 m nx ls vr)) : W p l e R s m args below meth c H locs 0 0 Q (F0 m pc ls vs) := by
  obtain ⟨hx, hb, hml, hown, hts, hK, hnm, hRf, hRl⟩ := C
  obtain ⟨hlo, hst, hE, hG, hlc⟩ := F
  obtain ⟨hcat, xn, xd, xs, vr, rfl, hvr, hn, ⟨n1, n2⟩, rfl, rfl⟩ := s_cp5S hcp hE hst
  obtain ⟨en, hd⟩ := q_dec (n := 3) hi rfl
  have en : nx = pc + 3 := en
  have hc := (q_rowI hi).2.2.1
  simp only [c_I, show Nat.beq 901 901 = true from rfl, cond_true] at hc
  have hxn : xn.toInt = (xn.toNatClampNeg : Int) := by
    show xn.toInt = ((xn.toInt.toNat : Nat) : Int)
    omega
  have nlt : ¬ xn < 0 := fun hlt => by
    have h2 := Int32.lt_iff_toInt_lt.mp hlt
    have h3 : (0 : Int32).toInt = 0 := rfl
    omega
  have z0 : (0 : Int32).toNatClampNeg = 0 := rfl
  refine q_copy hx hb (by rw [hml]; exact hlo.1.symm) hown (hts _ (wAt_mem hc)) (hts _ q_w_nat) (hts _ q_w_sta) (hts _ q_w_sys) (hK.1.2 0 _ rfl).1 h0 h1 (by decide) (by decide) nlt (by rw [z0]; omega) (by rw [z0]; omega) (by omega) (by rw [hvr.cats]; have : nativeFrameWords "java/lang/System" "arraycopy" 5 ≤ 100 := (by decide); omega) hd (fun H1 Lq hL w1 w2 w3 => ?_)
  rw [← en]
  refine kk H1 vr _ xn.toNatClampNeg (by rw [← hxn]; exact hn) (by omega) w1 w2 w3 ⟨hlo, hvr, hE, (hG.less hf hs).other hb1 hn1 w1 w2, fun q hq => ?_⟩
  rcases List.mem_append.mp hq with hq | hq
  · exact hlc q hq
  · rw [hL q hq]
    exact hb1
end RR3
