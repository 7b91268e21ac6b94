/-! The law's own rules. -/
noncomputable def zn (a : zA) : zA := match a with
  | .inl v => .inl (wr v)
  | a => a
theorem zn_v (ad : Nat → Nat) (a : zA) : zv ad (zn a) = zv ad a := by
  rcases a with v | o
  · show Value.int (Int32.ofInt (wr v)) = Value.int (Int32.ofInt v)
    rw [← wrE, z_ofN]
  · rfl
theorem zn_cat (a : zA) : z_cat (zn a) = z_cat a := by
  rcases a with v | o
  · rfl
  · rfl
theorem zn_args (ad : Nat → Nat) : ∀ (as : List zA) (i : Nat), z_lm ad (z_args i as) = z_lm ad (z_args i (as.map zn))
  | [], _ => rfl
  | a :: as, i => by
    have e := zn_args ad as
    rw [List.map_cons]
    unfold z_args
    unfold z_lm at e ⊢
    rw [List.map_cons, List.map_cons, e, zn_cat, zn_v]
theorem zT2_lo {x : zX} {D k pc : Nat} {lo lo2 : zL} {st : List zA} {mm : zM} {κ : Option zA → zM → Prop} (e : z_lm x.2.2.2.2.2 lo = z_lm x.2.2.2.2.2 lo2) (h : zTt2 x D k (pc, lo2, st, mm) κ) : zTt2 x D k (pc, lo, st, mm) κ := by
  refine ⟨fun hk p e1 s m args below meth c C hret hlocks htab hfl hsh ls vs H locs F => h.1 hk p e1 s m args below meth c C hret hlocks htab hfl hsh ls vs H locs ⟨?_, F.2⟩, fun hk p e1 s m args below meth c C hret hlocks ls vs H locs F => h.2 hk p e1 s m args below meth c C hret hlocks ls vs H locs ⟨?_, F.2⟩⟩
  · have := F.1
    dsimp only at this ⊢
    rw [e] at this
    exact this
  · have := F.1
    dsimp only at this ⊢
    rw [e] at this
    exact this
section ZCallH
variable {p : Program} {e : Env} {R : Room} {s : State} {m : MethodId} {args : Array Value} {below : List Frame} {meth : Method} {cd : Code} {cells slots : Nat} {Q : State → Prop} {x : zX} {κ : Option zA → zM → Prop} {D k pc nx c kc : Nat} {st as rs : List zA} {lo : zL} {mm : zM}
set_option maxHeartbeats 4000000 in
theorem z_callH (C : q_Ctx p R s m args meth cd x.2.1 x.2.2.1 x.2.2.2.1 x.2.2.2.2.1 k) (site : z_Site k pc nx c st as rs) (hcat : z_cats rs ≤ 8) (hh : q_HK c kc) (hI : zHI c = true) (hca : z_cats as ≤ mL c) (hfl : x.1.stackTraces = false) (hD : D + 2 + 8 ≤ R.frames) (hD2 : 80 * (D + 2) + 400 ≤ R.locals) (hcl : cells + 1 ≤ R.cells) (hsl : slots + 6 ≤ R.slots)
    (hB : z_blk [] c (fun _ => False) (zCallH x D κ c kc) (fun _ _ => False) (fun _ => False) 20 (0, z_args 0 as, [], mm)) (kk : ∀ r m1, κ r m1 → zW p x.1 e R s m args below meth cd (cells + 1) (slots + 6) Q x.2.1 x.2.2.1 x.2.2.2.1 x.2.2.2.2.1 x.2.2.2.2.2 k (nx, lo, r.toList ++ rs, m1)) : zW p x.1 e R s m args below meth cd cells slots Q x.2.1 x.2.2.1 x.2.2.2.1 x.2.2.2.2.1 x.2.2.2.2.2 k (pc, lo, st, mm) := by
  obtain ⟨l, dC, dI, dA, Hb, ad⟩ := x
  dsimp only at C hfl kk ⊢
  rintro ls vs H locs ⟨hlo, rfl, hH, hlc⟩
  show W p l e R s m args below meth cd H locs cells slots Q (F0 m pc ls (st.map (zv ad)))
  obtain ⟨hx, hb, hml, hown, hts, hK, hnm, hRf, hRl⟩ := C
  have hM := z_metH (x := (l, dC, dI, dA, Hb, ad)) hfl hh hI hca hH hB
  dsimp only at hM
  obtain ⟨hHh, hHD, hc1, hc2, hkc⟩ := hh
  obtain ⟨w1, w2, w3, w4, w5, w6, w7, w8, w9⟩ := q_HW hHh
  have hlo1 : ls.size = mL k := hlo.1
  have hroom : (q_rm (D + 1) 1 6).frames + 1 ≤ R.frames ∧ 8 + (mL c + 11) + (q_rm (D + 1) 1 6).locals ≤ R.locals := ⟨by show D + 1 + 8 + 1 ≤ R.frames; omega, q_key0 (by show 80 * (D + 1) + 480 ≤ R.locals; omega) _ w7⟩
  obtain ⟨xi, a2, a3, z, site⟩ := site
  have hnp : c_plain c = false := by
    have : c = 298 ∨ c = 299 ∨ c = 300 ∨ c = 301 := by omega
    rcases this with rfl | rfl | rfl | rfl <;> rfl
  rcases site with ⟨hi, ht⟩ | ⟨hi, ht, q, as', rfl, hq⟩
  · obtain ⟨en, hd⟩ := q_dec (n := 3) hi rfl
    have hc := (q_rowI hi).2.2.1
    simp only [c_I, q_beqF (show c ≠ 901 by omega), cond_false, nMth, q_bleF (show c < 303 by omega), Bool.false_or, Bool.and_eq_true] at hc
    have ea2 := Nat.eq_of_beq_eq_true hc.2
    obtain ⟨ws, rfl, rfl, g3⟩ := z_takeS ht
    refine q_callW (vx_runSW (hh := q_hh c) (bytes := mC c) (maxL := mL c) (ret := mR c) (n := mP c) (As := (ws.reverse ++ []).map (zv ad)) (rest := rs.map (zv ad)) ⟨hx, hb, hml, hown, hts⟩ hM
      ⟨⟨rfl, rfl, hroom.1, hroom.2, pay_in hts (q_goodH w1), List.mem_cons_self⟩, hts _ w1, hts _ w2, ⟨w4, w5⟩, fun sig hsig => by
        have h2 := w6
        rw [hsig] at h2
        exact (Option.some.inj h2).symm, hts _ (wAt_mem hc.1.1), hts _ (wAt_mem hc.1.2)⟩
      ⟨fun a U g mk q => ⟨q.1, q.2.1.calling, q.2.2⟩, fun U hU hW => ⟨rfl, hK.moved hW, hU⟩⟩ rfl ?_ hlo1 ?_ (lv_room (by rw [z_catsS]; exact hcat)) hd ⟨hcl, hsl⟩) hlc (fun v st2 t locs1 hq hl1 => ?_)
    · rw [List.length_map, List.append_nil, List.length_reverse, g3, ea2]
    · rw [List.append_nil, List.map_reverse, List.reverse_reverse, List.map_append]
    · obtain ⟨r, m1, hr, hκ, hh1⟩ := hq
      cases hr
      have en : nx = pc + 3 := en
      subst en
      refine kk r m1 hκ ls _ t.heap locs1 ⟨hlo, ?_, hh1, hl1⟩
      show (r.map (zv ad)).toList ++ rs.map (zv ad) = (r.toList ++ rs).map (zv ad)
      rw [List.map_append]
      cases r <;> rfl
  · have hc := (q_rowI hi).2.2.1
    simp only [c_I, nMth, q_bleF (show c < 303 by omega), Bool.false_or, Bool.and_eq_true] at hc
    have := hc.1.1.1.1.1
    rw [hnp] at this
    cases this
end ZCallH
/-- what a helper does -/
noncomputable def zLK (TL : Nat → zG → Prop) (t : Nat) (f : zG) : Option zA → zM → Prop := fun r m1 => (r = none → TL (t + 1) (f.1, f.2.1, zi 1 :: f.2.2.1, m1)) ∧ (∀ v : Int, r = some (.inl v) → -2147483648 ≤ v ∧ v ≤ 2147483647 → TL (t + 1) (f.1, f.2.1, zi 0 :: f.2.2.1, zu m1 109 0 (wr v)))
noncomputable def zLHlp (T : Nat → Nat → zG → (Option zA → zM → Prop) → Prop) (TL : Nat → zG → Prop) (t c : Nat) (as : List zA) (f : zG) : Prop := (∃ a b : Int, as = [zr 1, zi a, zi b, zr 109] ∧ ((c = 298 ∧ T 398 117 (0, [(0, zr 1), (1, zi (wr a)), (2, zi (wr b))], [], f.2.2.2) (zLK TL t f)) ∨ (c = 299 ∧ T 398 118 (0, [(0, zr 1), (1, zi (wr a)), (2, zi (wr b))], [], f.2.2.2) (zLK TL t f)))) ∨ (∃ a : Int, as = [zr 1, zi a, zr 109] ∧ ((c = 300 ∧ T 398 130 (0, [(0, zr 1), (1, zi (wr a))], [], f.2.2.2) (zLK TL t f)) ∨ (c = 301 ∧ T 398 162 (0, [(0, zr 1), (1, zi (wr a))], [], f.2.2.2) (zLK TL t f))))
noncomputable def zLCall (T : Nat → Nat → zG → (Option zA → zM → Prop) → Prop) (TL : Nat → zG → Prop) (t c : Nat) (as : List zA) (f : zG) : Prop := bif z_pl c && Nat.ble (z_cats as) (mL c) then T 399 c (0, z_args 0 (as.map zn), [], f.2.2.2) (fun r m1 => z_ans c r → TL t (f.1, f.2.1, r.toList ++ f.2.2.1, m1)) else (t + 1 ≤ 520 ∧ zLHlp T TL t c as f)
noncomputable def zLRules (T : Nat → Nat → zG → (Option zA → zM → Prop) → Prop) (TL : Nat → zG → Prop) (L : Int) (xs : Nat → Int) : Prop :=
  (∀ (n t : Nat) (g : zG), z_blk [] 302 (TL t) (zLCall T TL t) (fun r _ => r = some (zi 1)) (fun _ => False) n g → TL t g) ∧
  (∀ (ks : List Nat) (t pc : Nat) (lo : zL) (st : List zA) (m : zM), TL t (pc, z_keep ks lo, st, m) → TL t (pc, lo, st, m)) ∧
  (∀ (t : Nat) (g : zG), t + 1 ≤ 520 → TL (t + 1) g → TL t g) ∧
  (∀ (t pc : Nat) (lo : zL) (st : List zA) (m : zM), ((m 110 0 = L ∧ ∀ j : Nat, (j : Int) < L → wr (m 0 j) = xs j) → TL t (pc, lo, st, m)) → TL t (pc, lo, st, m))
noncomputable def zTL (x : zX) (p : Program) (e : Env) (R : Room) (s : State) (m : MethodId) (args : Array Value) (below : List Frame) (meth : Method) (c : Code) (Q : State → Prop) (t : Nat) (g : zG) : Prop := t ≤ 520 → ∀ cells slots : Nat, cells ≤ 1000 + t → slots ≤ 100000 + 6 * t → zW p x.1 e R s m args below meth c cells slots Q x.2.1 x.2.2.1 x.2.2.2.1 x.2.2.2.2.1 x.2.2.2.2.2 302 g
section ZLaw
variable {p : Program} {e : Env} {R : Room} {s : State} {m : MethodId} {args : Array Value} {below : List Frame} {meth : Method} {cd : Code} {Q : State → Prop} {x : zX}
theorem zh_298 {κ : Option zA → zM → Prop} {D : Nat} {mm : zM} {a b : Int} {κ1 : Option zA → zM → Prop} (hT : zTX2 x D 117 (0, z_args 0 [zr 1, zi a, zi b], [], mm) κ1) (h1 : ∀ v m1, κ1 (some (.inl v)) m1 → -2147483648 ≤ v ∧ v ≤ 2147483647 → κ (some (zi 0)) (zu m1 109 0 (wr v))) (h2 : ∀ m1, κ1 none m1 → κ (some (zi 1)) m1) : z_blk [] 298 (fun _ => False) (zCallH x D κ 298 117) (fun _ _ => False) (fun _ => False) 20 (0, z_args 0 [zr 1, zi a, zi b, zr 109], [], mm) := by
  have key : zCallH x D κ 298 117 117 [zr 1, zi a, zi b] (8, [(0, zr 1), (1, zi a), (2, zi b), (3, zr 109)], [zi 0, zr 109], mm) := by
    refine ⟨rfl, rfl, Nat.le_of_ble_eq_true rfl, κ1, hT, fun r m1 hr h => ?_, h2⟩
    have hr : ∃ v : Int, some r = some (.inl v) ∧ (-2147483648 ≤ v ∧ v ≤ 2147483647) := hr
    obtain ⟨v, hv, hB⟩ := hr
    cases hv
    exact ⟨z_ixL rfl, h1 v m1 h hB⟩
  exact key
theorem zh_299 {κ : Option zA → zM → Prop} {D : Nat} {mm : zM} {a b : Int} {κ1 : Option zA → zM → Prop} (hT : zTX2 x D 118 (0, z_args 0 [zr 1, zi a, zi b], [], mm) κ1) (h1 : ∀ v m1, κ1 (some (.inl v)) m1 → -2147483648 ≤ v ∧ v ≤ 2147483647 → κ (some (zi 0)) (zu m1 109 0 (wr v))) (h2 : ∀ m1, κ1 none m1 → κ (some (zi 1)) m1) : z_blk [] 299 (fun _ => False) (zCallH x D κ 299 118) (fun _ _ => False) (fun _ => False) 20 (0, z_args 0 [zr 1, zi a, zi b, zr 109], [], mm) := by
  have key : zCallH x D κ 299 118 118 [zr 1, zi a, zi b] (8, [(0, zr 1), (1, zi a), (2, zi b), (3, zr 109)], [zi 0, zr 109], mm) := by
    refine ⟨rfl, rfl, Nat.le_of_ble_eq_true rfl, κ1, hT, fun r m1 hr h => ?_, h2⟩
    have hr : ∃ v : Int, some r = some (.inl v) ∧ (-2147483648 ≤ v ∧ v ≤ 2147483647) := hr
    obtain ⟨v, hv, hB⟩ := hr
    cases hv
    exact ⟨z_ixL rfl, h1 v m1 h hB⟩
  exact key
theorem zh_300 {κ : Option zA → zM → Prop} {D : Nat} {mm : zM} {a : Int} {κ1 : Option zA → zM → Prop} (hT : zTX2 x D 130 (0, z_args 0 [zr 1, zi a], [], mm) κ1) (h1 : ∀ v m1, κ1 (some (.inl v)) m1 → -2147483648 ≤ v ∧ v ≤ 2147483647 → κ (some (zi 0)) (zu m1 109 0 (wr v))) (h2 : ∀ m1, κ1 none m1 → κ (some (zi 1)) m1) : z_blk [] 300 (fun _ => False) (zCallH x D κ 300 130) (fun _ _ => False) (fun _ => False) 20 (0, z_args 0 [zr 1, zi a, zr 109], [], mm) := by
  have key : zCallH x D κ 300 130 130 [zr 1, zi a] (7, [(0, zr 1), (1, zi a), (2, zr 109)], [zi 0, zr 109], mm) := by
    refine ⟨rfl, rfl, Nat.le_of_ble_eq_true rfl, κ1, hT, fun r m1 hr h => ?_, h2⟩
    have hr : ∃ v : Int, some r = some (.inl v) ∧ (-2147483648 ≤ v ∧ v ≤ 2147483647) := hr
    obtain ⟨v, hv, hB⟩ := hr
    cases hv
    exact ⟨z_ixL rfl, h1 v m1 h hB⟩
  exact key
theorem zh_301 {κ : Option zA → zM → Prop} {D : Nat} {mm : zM} {a : Int} {κ1 : Option zA → zM → Prop} (hT : zTX2 x D 162 (0, z_args 0 [zr 1, zi a], [], mm) κ1) (h1 : ∀ v m1, κ1 (some (.inl v)) m1 → -2147483648 ≤ v ∧ v ≤ 2147483647 → κ (some (zi 0)) (zu m1 109 0 (wr v))) (h2 : ∀ m1, κ1 none m1 → κ (some (zi 1)) m1) : z_blk [] 301 (fun _ => False) (zCallH x D κ 301 162) (fun _ _ => False) (fun _ => False) 20 (0, z_args 0 [zr 1, zi a, zr 109], [], mm) := by
  have key : zCallH x D κ 301 162 162 [zr 1, zi a] (7, [(0, zr 1), (1, zi a), (2, zr 109)], [zi 0, zr 109], mm) := by
    refine ⟨rfl, rfl, Nat.le_of_ble_eq_true rfl, κ1, hT, fun r m1 hr h => ?_, h2⟩
    have hr : ∃ v : Int, some r = some (.inl v) ∧ (-2147483648 ≤ v ∧ v ≤ 2147483647) := hr
    obtain ⟨v, hv, hB⟩ := hr
    cases hv
    exact ⟨z_ixL rfl, h1 v m1 h hB⟩
  exact key
set_option maxHeartbeats 4000000 in
theorem zLRulesS {L : Nat} {xs : Nat → Int32} {b : Nat} (C : q_Ctx p R s m args meth cd x.2.1 x.2.2.1 x.2.2.2.1 x.2.2.2.2.1 302) (hfl : x.1.stackTraces = false) (hR1 : 408 ≤ R.frames) (hR2 : 32400 ≤ R.locals) (hR3 : 2000 ≤ R.cells) (hR4 : 110000 ≤ R.slots)
    (hX : ∃ scr : Cell, x.2.2.2.2.1[x.2.2.2.2.2 0]? = some scr ∧ scr.slots.size = L ∧ ∀ j : Nat, j < L → scr.slots[j]? = some (.int (xs j)))
    (kr : ∀ (pc : Nat) (lo : zL) (st : List zA) (mm : zM), z_Ret 302 pc st (some (zi 1)) → ∀ cells slots : Nat, cells ≤ 2000 → slots ≤ 110000 → zW p x.1 e R s m args below meth cd cells slots Q x.2.1 x.2.2.1 x.2.2.2.1 x.2.2.2.2.1 x.2.2.2.2.2 302 (pc, lo, st, mm)) :
    zLRules (zTt2 x) (zTL x p e R s m args below meth cd Q) (L : Int) (fun j => (xs j).toInt) := by
  refine ⟨fun n t g h ht cells slots hc hs => ?_, fun ks t pc lo st mm h ht cells slots hc hs ls vs H locs F => h ht cells slots hc hs ls vs H locs ⟨z_keepS ks F.1, F.2⟩, fun t g ht1 h ht cells slots hc hs => h ht1 cells slots (by omega) (by omega), fun t pc lo st mm h ht cells slots hc hs ls vs H locs F => ?_⟩
  · refine z_blkS (G := zTL x p e R s m args below meth cd Q t) C (fun g1 h1 => h1 ht cells slots hc hs) (fun c0 as nx rs lo st pc mm site hcr hc0 hC => ?_) (fun r pc lo st mm hr hκ => ?_) (fun pc lo st mm _ _ _ h => h.elim) n g h
    · unfold zLCall at hC
      cases hb : z_pl c0 && Nat.ble (z_cats as) (mL c0) with
      | true =>
        rw [hb] at hC
        simp only [cond_true] at hC
        rw [Bool.and_eq_true] at hb
        have hpl := hb.1
        have hnt := z_plT hpl
        simp only [z_pl, Bool.and_eq_true] at hpl
        refine z_callS C site hcr (by have := q_blt hpl.1.1; omega) hpl.2 (Nat.le_of_ble_eq_true hb.2) (D := 399) (by omega) (by omega) (by omega) (by omega) ((zT2_lo (zn_args _ _ _) hC).2 hnt) (fun r m1 h1 => h1.2 h1.1 ht cells slots hc hs)
      | false =>
        rw [hb] at hC
        simp only [cond_false] at hC
        obtain ⟨ht1, hC⟩ := hC
        have go : ∀ (kc : Nat), q_HK c0 kc → zHI c0 = true → z_cats as ≤ mL c0 → z_blk [] c0 (fun _ => False) (zCallH x 398 (fun r m1 => zTL x p e R s m args below meth cd Q (t + 1) (nx, lo, r.toList ++ rs, m1)) c0 kc) (fun _ _ => False) (fun _ => False) 20 (0, z_args 0 as, [], mm) → zW p x.1 e R s m args below meth cd cells slots Q x.2.1 x.2.2.1 x.2.2.2.1 x.2.2.2.2.1 x.2.2.2.2.2 302 (pc, lo, st, mm) := fun kc hk hI hca hB =>
          z_callH C site hcr hk hI hca hfl (D := 398) (by omega) (by omega) (by omega) (by omega) hB (fun r m1 h1 => h1 ht1 (cells + 1) (slots + 6) (by omega) (by omega))
        rcases hC with ⟨a, b, rfl, ⟨rfl, hT⟩ | ⟨rfl, hT⟩⟩ | ⟨a, rfl, ⟨rfl, hT⟩ | ⟨rfl, hT⟩⟩
        · refine go 117 (q_hk rfl) rfl (Nat.le_of_ble_eq_true rfl) (zh_298 ((zT2_lo (zn_args _ [zr 1, zi a, zi b] 0) hT).1 rfl) (fun v m1 h hB => h.2 v rfl hB) (fun m1 h => h.1 rfl))
        · refine go 118 (q_hk rfl) rfl (Nat.le_of_ble_eq_true rfl) (zh_299 ((zT2_lo (zn_args _ [zr 1, zi a, zi b] 0) hT).1 rfl) (fun v m1 h hB => h.2 v rfl hB) (fun m1 h => h.1 rfl))
        · refine go 130 (q_hk rfl) rfl (Nat.le_of_ble_eq_true rfl) (zh_300 ((zT2_lo (zn_args _ [zr 1, zi a] 0) hT).1 rfl) (fun v m1 h hB => h.2 v rfl hB) (fun m1 h => h.1 rfl))
        · refine go 162 (q_hk rfl) rfl (Nat.le_of_ble_eq_true rfl) (zh_301 ((zT2_lo (zn_args _ [zr 1, zi a] 0) hT).1 rfl) (fun v m1 h hB => h.2 v rfl hB) (fun m1 h => h.1 rfl))
    · subst hκ
      exact kr pc lo st mm hr cells slots (by omega) (by omega)
  · refine h ?_ ht cells slots hc hs ls vs H locs F
    obtain ⟨-, -, ⟨g1, -, ⟨⟨-, gb⟩, scr, s1, s2, s3, s4⟩, -, -⟩, -⟩ := F
    obtain ⟨scr0, x1, x2, x3⟩ := hX
    rw [g1 _ gb, x1] at s1
    cases s1
    dsimp only at s3 s4
    rw [x2] at s3
    refine ⟨s3.symm, fun j hj => ?_⟩
    have h1 := s4 j (by omega)
    rw [x3 j (by omega)] at h1
    have h2 : xs j = Int32.ofInt (mm 0 j) := Value.int.inj (Option.some.inj h1)
    show wr (mm 0 j) = (xs j).toInt
    rw [← wrE, h2]
end ZLaw
