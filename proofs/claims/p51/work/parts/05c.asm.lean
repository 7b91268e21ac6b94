/-! The instructions by an assembler: what the bytes must be for the decoder to read the row. -/
/-- the byte at p is v -/
noncomputable def bat (c : ByteArray) (p v : Nat) : Prop := ∃ h : p < c.size, c[p].toNat = v
noncomputable abbrev Rd (α : Type) : Type := ClassFile.Reader ClassFile.DecodeError α
theorem rd1 {c : ByteArray} {p v : Nat} (b : bat c p v) : (ClassFile.Reader.u1 : Rd Nat) c p = .ok (v, p + 1) := by
  obtain ⟨h, rfl⟩ := b
  show (dite (p < c.size) (fun h => (do set (p + 1); pure c[p].toNat : Rd Nat)) (fun _ => throw (ClassFile.HasTruncated.truncated p)) : Rd Nat) c p = _
  rw [dif_pos h]
  rfl
theorem rdB {α β : Type} {x : Rd α} {f : α → Rd β} {c : ByteArray} {p q : Nat} {a : α} (h : x c p = .ok (a, q)) : (x >>= f) c p = f a c q := by
  show Except.bind (x c p) (fun r => f r.1 c r.2) = _
  rw [h]
  rfl
theorem rdM {α β : Type} {x : Rd α} {f : α → β} {c : ByteArray} {p q : Nat} {a : α} (h : x c p = .ok (a, q)) : (f <$> x) c p = .ok (f a, q) := by
  show Except.bind (x c p) (fun r => Except.ok (f r.1, r.2)) = _
  rw [h]
  rfl
theorem rd2 {c : ByteArray} {p a b : Nat} (h1 : bat c p a) (h2 : bat c (p + 1) b) : (ClassFile.Reader.u2 : Rd Nat) c p = .ok (a * 256 + b, p + 2) :=
  (rdB (rd1 h1)).trans (rdB (rd1 h2))
theorem rds1 {c : ByteArray} {p a : Nat} (h1 : bat c p a) : (ClassFile.Reader.s1 : Rd Int) c p = .ok (ClassFile.Reader.signed 8 a, p + 1) := rdM (rd1 h1)
theorem rds2 {c : ByteArray} {p a b : Nat} (h1 : bat c p a) (h2 : bat c (p + 1) b) : (ClassFile.Reader.s2 : Rd Int) c p = .ok (ClassFile.Reader.signed 16 (a * 256 + b), p + 2) := rdM (rd2 h1 h2)
theorem dcO {c : ByteArray} {p n : Nat} {i : Instr} (h : (ClassFile.Decoder.instr p : Rd Instr) c p = .ok (i, p + n)) : decode c p = .ok (i, n) := by
  show Except.bind ((ClassFile.Decoder.instr p : Rd Instr) c p) (fun r => Except.ok (r.1, r.2 - p)) = _
  rw [h]
  show Except.ok (i, p + n - p) = _
  rw [Nat.add_sub_cancel_left]
/-- what is left of the bytes at p -/
noncomputable def bsat (c : ByteArray) (p : Nat) (bs : List Nat) : Prop := ∀ j v : Nat, bs[j]? = some v → bat c (p + j) v
noncomputable def dk1 (bs : List Nat) (len op : Nat) : Bool := Nat.beq len 1 && (match bs with
  | a :: _ => Nat.beq a op
  | _ => false)
noncomputable def dk2 (bs : List Nat) (len op x : Nat) : Bool := Nat.beq len 2 && (match bs with
  | a :: b :: _ => Nat.beq a op && Nat.beq b x
  | _ => false)
noncomputable def dk2s (bs : List Nat) (len op : Nat) (x : Int) : Bool := Nat.beq len 2 && (match bs with
  | a :: b :: _ => Nat.beq a op && decide (ClassFile.Reader.signed 8 b = x)
  | _ => false)
noncomputable def dk3 (bs : List Nat) (len op x : Nat) : Bool := Nat.beq len 3 && (match bs with
  | a :: b :: d :: _ => Nat.beq a op && Nat.beq (b * 256 + d) x
  | _ => false)
noncomputable def dk3s (bs : List Nat) (len op : Nat) (x : Int) : Bool := Nat.beq len 3 && (match bs with
  | a :: b :: d :: _ => Nat.beq a op && decide (ClassFile.Reader.signed 16 (b * 256 + d) = x)
  | _ => false)
noncomputable def dk3i (bs : List Nat) (len op x : Nat) (y : Int) : Bool := Nat.beq len 3 && (match bs with
  | a :: b :: d :: _ => Nat.beq a op && (Nat.beq b x && decide (ClassFile.Reader.signed 8 d = y))
  | _ => false)
theorem dk1S {c : ByteArray} {p len op : Nat} {bs : List Nat} (h : dk1 bs len op = true) (hb : bsat c p bs) : len = 1 ∧ bat c p op := by
  unfold dk1 at h
  rw [Bool.and_eq_true] at h
  refine ⟨Nat.eq_of_beq_eq_true h.1, ?_⟩
  match bs, hb, h.2 with
  | a :: r, hb, h2 => exact Nat.eq_of_beq_eq_true h2 ▸ hb 0 a rfl
theorem dk2S {c : ByteArray} {p len op x : Nat} {bs : List Nat} (h : dk2 bs len op x = true) (hb : bsat c p bs) : len = 2 ∧ bat c p op ∧ bat c (p + 1) x := by
  unfold dk2 at h
  rw [Bool.and_eq_true] at h
  refine ⟨Nat.eq_of_beq_eq_true h.1, ?_⟩
  match bs, hb, h.2 with
  | a :: b :: r, hb, h2 =>
    rw [Bool.and_eq_true] at h2
    exact ⟨Nat.eq_of_beq_eq_true h2.1 ▸ hb 0 a rfl, Nat.eq_of_beq_eq_true h2.2 ▸ hb 1 b rfl⟩
theorem dk2sS {c : ByteArray} {p len op : Nat} {x : Int} {bs : List Nat} (h : dk2s bs len op x = true) (hb : bsat c p bs) : len = 2 ∧ bat c p op ∧ ∃ b, bat c (p + 1) b ∧ ClassFile.Reader.signed 8 b = x := by
  unfold dk2s at h
  rw [Bool.and_eq_true] at h
  refine ⟨Nat.eq_of_beq_eq_true h.1, ?_⟩
  match bs, hb, h.2 with
  | a :: b :: r, hb, h2 =>
    rw [Bool.and_eq_true] at h2
    exact ⟨Nat.eq_of_beq_eq_true h2.1 ▸ hb 0 a rfl, b, hb 1 b rfl, of_decide_eq_true h2.2⟩
theorem dk3S {c : ByteArray} {p len op x : Nat} {bs : List Nat} (h : dk3 bs len op x = true) (hb : bsat c p bs) : len = 3 ∧ bat c p op ∧ ∃ b d, bat c (p + 1) b ∧ bat c (p + 2) d ∧ b * 256 + d = x := by
  unfold dk3 at h
  rw [Bool.and_eq_true] at h
  refine ⟨Nat.eq_of_beq_eq_true h.1, ?_⟩
  match bs, hb, h.2 with
  | a :: b :: d :: r, hb, h2 =>
    rw [Bool.and_eq_true] at h2
    exact ⟨Nat.eq_of_beq_eq_true h2.1 ▸ hb 0 a rfl, b, d, hb 1 b rfl, hb 2 d rfl, Nat.eq_of_beq_eq_true h2.2⟩
theorem dk3sS {c : ByteArray} {p len op : Nat} {x : Int} {bs : List Nat} (h : dk3s bs len op x = true) (hb : bsat c p bs) : len = 3 ∧ bat c p op ∧ ∃ b d, bat c (p + 1) b ∧ bat c (p + 2) d ∧ ClassFile.Reader.signed 16 (b * 256 + d) = x := by
  unfold dk3s at h
  rw [Bool.and_eq_true] at h
  refine ⟨Nat.eq_of_beq_eq_true h.1, ?_⟩
  match bs, hb, h.2 with
  | a :: b :: d :: r, hb, h2 =>
    rw [Bool.and_eq_true] at h2
    exact ⟨Nat.eq_of_beq_eq_true h2.1 ▸ hb 0 a rfl, b, d, hb 1 b rfl, hb 2 d rfl, of_decide_eq_true h2.2⟩
theorem dk3iS {c : ByteArray} {p len op x : Nat} {y : Int} {bs : List Nat} (h : dk3i bs len op x y = true) (hb : bsat c p bs) : len = 3 ∧ bat c p op ∧ bat c (p + 1) x ∧ ∃ d, bat c (p + 2) d ∧ ClassFile.Reader.signed 8 d = y := by
  unfold dk3i at h
  rw [Bool.and_eq_true] at h
  refine ⟨Nat.eq_of_beq_eq_true h.1, ?_⟩
  match bs, hb, h.2 with
  | a :: b :: d :: r, hb, h2 =>
    rw [Bool.and_eq_true, Bool.and_eq_true] at h2
    exact ⟨Nat.eq_of_beq_eq_true h2.1 ▸ hb 0 a rfl, Nat.eq_of_beq_eq_true h2.2.1 ▸ hb 1 b rfl, d, hb 2 d rfl, of_decide_eq_true h2.2.2⟩
noncomputable def cN : ClassFile.Cond → Nat
  | .eq => 0
  | .ne => 1
  | .lt => 2
  | .ge => 3
  | .gt => 4
  | .le => 5
noncomputable def atN : ClassFile.ArrayType → Nat
  | .boolean => 4
  | .char => 5
  | .float => 6
  | .double => 7
  | .byte => 8
  | .short => 9
  | .int => 10
  | .long => 11
/-- the row's bytes (false: of a kind that is decoded by itself) -/
noncomputable def dchk (i : Instr) (bs : List Nat) (len : Nat) : Bool := match i with
  | .iadd => dk1 bs len 96
  | .isub => dk1 bs len 100
  | .imul => dk1 bs len 104
  | .idiv => dk1 bs len 108
  | .irem => dk1 bs len 112
  | .ineg => dk1 bs len 116
  | .ishl => dk1 bs len 120
  | .ishr => dk1 bs len 122
  | .iushr => dk1 bs len 124
  | .iand => dk1 bs len 126
  | .ior => dk1 bs len 128
  | .ixor => dk1 bs len 130
  | .ladd => dk1 bs len 97
  | .lsub => dk1 bs len 101
  | .lmul => dk1 bs len 105
  | .ldiv => dk1 bs len 109
  | .lrem => dk1 bs len 113
  | .i2l => dk1 bs len 133
  | .l2i => dk1 bs len 136
  | .i2b => dk1 bs len 145
  | .i2c => dk1 bs len 146
  | .i2s => dk1 bs len 147
  | .lcmp => dk1 bs len 148
  | .iaload => dk1 bs len 46
  | .laload => dk1 bs len 47
  | .aaload => dk1 bs len 50
  | .baload => dk1 bs len 51
  | .caload => dk1 bs len 52
  | .iastore => dk1 bs len 79
  | .lastore => dk1 bs len 80
  | .bastore => dk1 bs len 84
  | .castore => dk1 bs len 85
  | .pop => dk1 bs len 87
  | .dup => dk1 bs len 89
  | .dup_x1 => dk1 bs len 90
  | .dup2 => dk1 bs len 92
  | .ireturn => dk1 bs len 172
  | .lreturn => dk1 bs len 173
  | .return_ => dk1 bs len 177
  | .arraylength => dk1 bs len 190
  | .athrow => dk1 bs len 191
  | .iload_n n => dk1 bs len (26 + n.val)
  | .lload_n n => dk1 bs len (30 + n.val)
  | .aload_n n => dk1 bs len (42 + n.val)
  | .istore_n n => dk1 bs len (59 + n.val)
  | .lstore_n n => dk1 bs len (63 + n.val)
  | .astore_n n => dk1 bs len (75 + n.val)
  | .lconst n => dk1 bs len (9 + n.val)
  | .iconst (.ofNat 0) => dk1 bs len 3
  | .iconst (.ofNat 1) => dk1 bs len 4
  | .iconst (.ofNat 2) => dk1 bs len 5
  | .iconst (.ofNat 3) => dk1 bs len 6
  | .iconst (.ofNat 4) => dk1 bs len 7
  | .iconst (.ofNat 5) => dk1 bs len 8
  | .iconst (.negSucc 0) => dk1 bs len 2
  | .ldc x => dk2 bs len 18 x
  | .iload x => dk2 bs len 21 x
  | .lload x => dk2 bs len 22 x
  | .aload x => dk2 bs len 25 x
  | .istore x => dk2 bs len 54 x
  | .lstore x => dk2 bs len 55 x
  | .astore x => dk2 bs len 58 x
  | .ldc_w x => dk3 bs len 19 x
  | .ldc2_w x => dk3 bs len 20 x
  | .getfield x => dk3 bs len 180 x
  | .putfield x => dk3 bs len 181 x
  | .invokevirtual x => dk3 bs len 182 x
  | .invokespecial x => dk3 bs len 183 x
  | .invokestatic x => dk3 bs len 184 x
  | .new x => dk3 bs len 187 x
  | .bipush v => dk2s bs len 16 v
  | .sipush v => dk3s bs len 17 v
  | .goto v => dk3s bs len 167 v
  | .ifCond c v => dk3s bs len (153 + cN c) v
  | .if_icmp c v => dk3s bs len (159 + cN c) v
  | .newarray t => dk2 bs len 188 (atN t)
  | .iinc n v => dk3i bs len 132 n v
  | _ => false
set_option maxHeartbeats 4000000 in
theorem dchkS {c : ByteArray} {p len : Nat} {i : Instr} {bs : List Nat} (h : dchk i bs len = true) (hb : bsat c p bs) : decode c p = .ok (i, len) := by
  unfold dchk at h
  split at h
  · obtain ⟨rfl, b0⟩ := dk1S h hb
    exact dcO ((rdB (rd1 b0)).trans rfl)
  · obtain ⟨rfl, b0⟩ := dk1S h hb
    exact dcO ((rdB (rd1 b0)).trans rfl)
  · obtain ⟨rfl, b0⟩ := dk1S h hb
    exact dcO ((rdB (rd1 b0)).trans rfl)
  · obtain ⟨rfl, b0⟩ := dk1S h hb
    exact dcO ((rdB (rd1 b0)).trans rfl)
  · obtain ⟨rfl, b0⟩ := dk1S h hb
    exact dcO ((rdB (rd1 b0)).trans rfl)
  · obtain ⟨rfl, b0⟩ := dk1S h hb
    exact dcO ((rdB (rd1 b0)).trans rfl)
  · obtain ⟨rfl, b0⟩ := dk1S h hb
    exact dcO ((rdB (rd1 b0)).trans rfl)
  · obtain ⟨rfl, b0⟩ := dk1S h hb
    exact dcO ((rdB (rd1 b0)).trans rfl)
  · obtain ⟨rfl, b0⟩ := dk1S h hb
    exact dcO ((rdB (rd1 b0)).trans rfl)
  · obtain ⟨rfl, b0⟩ := dk1S h hb
    exact dcO ((rdB (rd1 b0)).trans rfl)
  · obtain ⟨rfl, b0⟩ := dk1S h hb
    exact dcO ((rdB (rd1 b0)).trans rfl)
  · obtain ⟨rfl, b0⟩ := dk1S h hb
    exact dcO ((rdB (rd1 b0)).trans rfl)
  · obtain ⟨rfl, b0⟩ := dk1S h hb
    exact dcO ((rdB (rd1 b0)).trans rfl)
  · obtain ⟨rfl, b0⟩ := dk1S h hb
    exact dcO ((rdB (rd1 b0)).trans rfl)
  · obtain ⟨rfl, b0⟩ := dk1S h hb
    exact dcO ((rdB (rd1 b0)).trans rfl)
  · obtain ⟨rfl, b0⟩ := dk1S h hb
    exact dcO ((rdB (rd1 b0)).trans rfl)
  · obtain ⟨rfl, b0⟩ := dk1S h hb
    exact dcO ((rdB (rd1 b0)).trans rfl)
  · obtain ⟨rfl, b0⟩ := dk1S h hb
    exact dcO ((rdB (rd1 b0)).trans rfl)
  · obtain ⟨rfl, b0⟩ := dk1S h hb
    exact dcO ((rdB (rd1 b0)).trans rfl)
  · obtain ⟨rfl, b0⟩ := dk1S h hb
    exact dcO ((rdB (rd1 b0)).trans rfl)
  · obtain ⟨rfl, b0⟩ := dk1S h hb
    exact dcO ((rdB (rd1 b0)).trans rfl)
  · obtain ⟨rfl, b0⟩ := dk1S h hb
    exact dcO ((rdB (rd1 b0)).trans rfl)
  · obtain ⟨rfl, b0⟩ := dk1S h hb
    exact dcO ((rdB (rd1 b0)).trans rfl)
  · obtain ⟨rfl, b0⟩ := dk1S h hb
    exact dcO ((rdB (rd1 b0)).trans rfl)
  · obtain ⟨rfl, b0⟩ := dk1S h hb
    exact dcO ((rdB (rd1 b0)).trans rfl)
  · obtain ⟨rfl, b0⟩ := dk1S h hb
    exact dcO ((rdB (rd1 b0)).trans rfl)
  · obtain ⟨rfl, b0⟩ := dk1S h hb
    exact dcO ((rdB (rd1 b0)).trans rfl)
  · obtain ⟨rfl, b0⟩ := dk1S h hb
    exact dcO ((rdB (rd1 b0)).trans rfl)
  · obtain ⟨rfl, b0⟩ := dk1S h hb
    exact dcO ((rdB (rd1 b0)).trans rfl)
  · obtain ⟨rfl, b0⟩ := dk1S h hb
    exact dcO ((rdB (rd1 b0)).trans rfl)
  · obtain ⟨rfl, b0⟩ := dk1S h hb
    exact dcO ((rdB (rd1 b0)).trans rfl)
  · obtain ⟨rfl, b0⟩ := dk1S h hb
    exact dcO ((rdB (rd1 b0)).trans rfl)
  · obtain ⟨rfl, b0⟩ := dk1S h hb
    exact dcO ((rdB (rd1 b0)).trans rfl)
  · obtain ⟨rfl, b0⟩ := dk1S h hb
    exact dcO ((rdB (rd1 b0)).trans rfl)
  · obtain ⟨rfl, b0⟩ := dk1S h hb
    exact dcO ((rdB (rd1 b0)).trans rfl)
  · obtain ⟨rfl, b0⟩ := dk1S h hb
    exact dcO ((rdB (rd1 b0)).trans rfl)
  · obtain ⟨rfl, b0⟩ := dk1S h hb
    exact dcO ((rdB (rd1 b0)).trans rfl)
  · obtain ⟨rfl, b0⟩ := dk1S h hb
    exact dcO ((rdB (rd1 b0)).trans rfl)
  · obtain ⟨rfl, b0⟩ := dk1S h hb
    exact dcO ((rdB (rd1 b0)).trans rfl)
  · obtain ⟨rfl, b0⟩ := dk1S h hb
    exact dcO ((rdB (rd1 b0)).trans rfl)
  · obtain ⟨rfl, b0⟩ := dk1S h hb
    exact dcO ((rdB (rd1 b0)).trans rfl)
  · rename_i n
    obtain ⟨rfl, b0⟩ := dk1S h hb
    match n, b0 with
    | 0, b0 => exact dcO ((rdB (rd1 b0)).trans rfl)
    | 1, b0 => exact dcO ((rdB (rd1 b0)).trans rfl)
    | 2, b0 => exact dcO ((rdB (rd1 b0)).trans rfl)
    | 3, b0 => exact dcO ((rdB (rd1 b0)).trans rfl)
  · rename_i n
    obtain ⟨rfl, b0⟩ := dk1S h hb
    match n, b0 with
    | 0, b0 => exact dcO ((rdB (rd1 b0)).trans rfl)
    | 1, b0 => exact dcO ((rdB (rd1 b0)).trans rfl)
    | 2, b0 => exact dcO ((rdB (rd1 b0)).trans rfl)
    | 3, b0 => exact dcO ((rdB (rd1 b0)).trans rfl)
  · rename_i n
    obtain ⟨rfl, b0⟩ := dk1S h hb
    match n, b0 with
    | 0, b0 => exact dcO ((rdB (rd1 b0)).trans rfl)
    | 1, b0 => exact dcO ((rdB (rd1 b0)).trans rfl)
    | 2, b0 => exact dcO ((rdB (rd1 b0)).trans rfl)
    | 3, b0 => exact dcO ((rdB (rd1 b0)).trans rfl)
  · rename_i n
    obtain ⟨rfl, b0⟩ := dk1S h hb
    match n, b0 with
    | 0, b0 => exact dcO ((rdB (rd1 b0)).trans rfl)
    | 1, b0 => exact dcO ((rdB (rd1 b0)).trans rfl)
    | 2, b0 => exact dcO ((rdB (rd1 b0)).trans rfl)
    | 3, b0 => exact dcO ((rdB (rd1 b0)).trans rfl)
  · rename_i n
    obtain ⟨rfl, b0⟩ := dk1S h hb
    match n, b0 with
    | 0, b0 => exact dcO ((rdB (rd1 b0)).trans rfl)
    | 1, b0 => exact dcO ((rdB (rd1 b0)).trans rfl)
    | 2, b0 => exact dcO ((rdB (rd1 b0)).trans rfl)
    | 3, b0 => exact dcO ((rdB (rd1 b0)).trans rfl)
  · rename_i n
    obtain ⟨rfl, b0⟩ := dk1S h hb
    match n, b0 with
    | 0, b0 => exact dcO ((rdB (rd1 b0)).trans rfl)
    | 1, b0 => exact dcO ((rdB (rd1 b0)).trans rfl)
    | 2, b0 => exact dcO ((rdB (rd1 b0)).trans rfl)
    | 3, b0 => exact dcO ((rdB (rd1 b0)).trans rfl)
  · rename_i n
    obtain ⟨rfl, b0⟩ := dk1S h hb
    match n, b0 with
    | 0, b0 => exact dcO ((rdB (rd1 b0)).trans rfl)
    | 1, b0 => exact dcO ((rdB (rd1 b0)).trans rfl)
  · obtain ⟨rfl, b0⟩ := dk1S h hb
    exact dcO ((rdB (rd1 b0)).trans rfl)
  · obtain ⟨rfl, b0⟩ := dk1S h hb
    exact dcO ((rdB (rd1 b0)).trans rfl)
  · obtain ⟨rfl, b0⟩ := dk1S h hb
    exact dcO ((rdB (rd1 b0)).trans rfl)
  · obtain ⟨rfl, b0⟩ := dk1S h hb
    exact dcO ((rdB (rd1 b0)).trans rfl)
  · obtain ⟨rfl, b0⟩ := dk1S h hb
    exact dcO ((rdB (rd1 b0)).trans rfl)
  · obtain ⟨rfl, b0⟩ := dk1S h hb
    exact dcO ((rdB (rd1 b0)).trans rfl)
  · obtain ⟨rfl, b0⟩ := dk1S h hb
    exact dcO ((rdB (rd1 b0)).trans rfl)
  · obtain ⟨rfl, b0, b1⟩ := dk2S h hb
    exact dcO ((rdB (rd1 b0)).trans ((rdB (rd1 b1)).trans rfl))
  · obtain ⟨rfl, b0, b1⟩ := dk2S h hb
    exact dcO ((rdB (rd1 b0)).trans ((rdB (rd1 b1)).trans rfl))
  · obtain ⟨rfl, b0, b1⟩ := dk2S h hb
    exact dcO ((rdB (rd1 b0)).trans ((rdB (rd1 b1)).trans rfl))
  · obtain ⟨rfl, b0, b1⟩ := dk2S h hb
    exact dcO ((rdB (rd1 b0)).trans ((rdB (rd1 b1)).trans rfl))
  · obtain ⟨rfl, b0, b1⟩ := dk2S h hb
    exact dcO ((rdB (rd1 b0)).trans ((rdB (rd1 b1)).trans rfl))
  · obtain ⟨rfl, b0, b1⟩ := dk2S h hb
    exact dcO ((rdB (rd1 b0)).trans ((rdB (rd1 b1)).trans rfl))
  · obtain ⟨rfl, b0, b1⟩ := dk2S h hb
    exact dcO ((rdB (rd1 b0)).trans ((rdB (rd1 b1)).trans rfl))
  · obtain ⟨rfl, b0, b, d, b1, b2, rfl⟩ := dk3S h hb
    exact dcO ((rdB (rd1 b0)).trans ((rdB (rd2 b1 b2)).trans rfl))
  · obtain ⟨rfl, b0, b, d, b1, b2, rfl⟩ := dk3S h hb
    exact dcO ((rdB (rd1 b0)).trans ((rdB (rd2 b1 b2)).trans rfl))
  · obtain ⟨rfl, b0, b, d, b1, b2, rfl⟩ := dk3S h hb
    exact dcO ((rdB (rd1 b0)).trans ((rdB (rd2 b1 b2)).trans rfl))
  · obtain ⟨rfl, b0, b, d, b1, b2, rfl⟩ := dk3S h hb
    exact dcO ((rdB (rd1 b0)).trans ((rdB (rd2 b1 b2)).trans rfl))
  · obtain ⟨rfl, b0, b, d, b1, b2, rfl⟩ := dk3S h hb
    exact dcO ((rdB (rd1 b0)).trans ((rdB (rd2 b1 b2)).trans rfl))
  · obtain ⟨rfl, b0, b, d, b1, b2, rfl⟩ := dk3S h hb
    exact dcO ((rdB (rd1 b0)).trans ((rdB (rd2 b1 b2)).trans rfl))
  · obtain ⟨rfl, b0, b, d, b1, b2, rfl⟩ := dk3S h hb
    exact dcO ((rdB (rd1 b0)).trans ((rdB (rd2 b1 b2)).trans rfl))
  · obtain ⟨rfl, b0, b, d, b1, b2, rfl⟩ := dk3S h hb
    exact dcO ((rdB (rd1 b0)).trans ((rdB (rd2 b1 b2)).trans rfl))
  · obtain ⟨rfl, b0, b, b1, rfl⟩ := dk2sS h hb
    exact dcO ((rdB (rd1 b0)).trans ((rdB (rds1 b1)).trans rfl))
  · obtain ⟨rfl, b0, b, d, b1, b2, rfl⟩ := dk3sS h hb
    exact dcO ((rdB (rd1 b0)).trans ((rdB (rds2 b1 b2)).trans rfl))
  · obtain ⟨rfl, b0, b, d, b1, b2, rfl⟩ := dk3sS h hb
    exact dcO ((rdB (rd1 b0)).trans ((rdB (rds2 b1 b2)).trans rfl))
  · rename_i cc v
    obtain ⟨rfl, b0, b, d, b1, b2, rfl⟩ := dk3sS h hb
    cases cc
    · exact dcO ((rdB (rd1 b0)).trans ((rdB (rds2 b1 b2)).trans rfl))
    · exact dcO ((rdB (rd1 b0)).trans ((rdB (rds2 b1 b2)).trans rfl))
    · exact dcO ((rdB (rd1 b0)).trans ((rdB (rds2 b1 b2)).trans rfl))
    · exact dcO ((rdB (rd1 b0)).trans ((rdB (rds2 b1 b2)).trans rfl))
    · exact dcO ((rdB (rd1 b0)).trans ((rdB (rds2 b1 b2)).trans rfl))
    · exact dcO ((rdB (rd1 b0)).trans ((rdB (rds2 b1 b2)).trans rfl))
  · rename_i cc v
    obtain ⟨rfl, b0, b, d, b1, b2, rfl⟩ := dk3sS h hb
    cases cc
    · exact dcO ((rdB (rd1 b0)).trans ((rdB (rds2 b1 b2)).trans rfl))
    · exact dcO ((rdB (rd1 b0)).trans ((rdB (rds2 b1 b2)).trans rfl))
    · exact dcO ((rdB (rd1 b0)).trans ((rdB (rds2 b1 b2)).trans rfl))
    · exact dcO ((rdB (rd1 b0)).trans ((rdB (rds2 b1 b2)).trans rfl))
    · exact dcO ((rdB (rd1 b0)).trans ((rdB (rds2 b1 b2)).trans rfl))
    · exact dcO ((rdB (rd1 b0)).trans ((rdB (rds2 b1 b2)).trans rfl))
  · rename_i t
    obtain ⟨rfl, b0, b1⟩ := dk2S h hb
    cases t
    · exact dcO ((rdB (rd1 b0)).trans ((rdB (rd1 b1)).trans rfl))
    · exact dcO ((rdB (rd1 b0)).trans ((rdB (rd1 b1)).trans rfl))
    · exact dcO ((rdB (rd1 b0)).trans ((rdB (rd1 b1)).trans rfl))
    · exact dcO ((rdB (rd1 b0)).trans ((rdB (rd1 b1)).trans rfl))
    · exact dcO ((rdB (rd1 b0)).trans ((rdB (rd1 b1)).trans rfl))
    · exact dcO ((rdB (rd1 b0)).trans ((rdB (rd1 b1)).trans rfl))
    · exact dcO ((rdB (rd1 b0)).trans ((rdB (rd1 b1)).trans rfl))
    · exact dcO ((rdB (rd1 b0)).trans ((rdB (rd1 b1)).trans rfl))
  · obtain ⟨rfl, b0, b1, d, b2, rfl⟩ := dk3iS h hb
    exact dcO ((rdB (rd1 b0)).trans ((rdB (rd1 b1)).trans ((rdB (rds1 b2)).trans rfl)))
  · cases h
