/-! Rows of a method against its bytes, in one pass -/
def rd (b : ByteArray) (p v : Nat) : Prop := ∃ h : p < b.size, b[p].toNat = v
theorem rd_u1 {b : ByteArray} {p v : Nat} (h : rd b p v) {α : Type} (f : Nat → ClassFile.Decoder α) : (Reader.u1 >>= f).runAt b p = (f v).runAt b (p + 1) := by
  obtain ⟨h1, h2⟩ := h
  subst h2
  have e : (Reader.u1 : ClassFile.Decoder Nat) b p = Except.ok (b[p].toNat, p + 1) := by
    show (dite (p < b.size) _ _ : ClassFile.Decoder Nat) b p = _
    rw [dif_pos h1]
    rfl
  show (Except.bind ((Reader.u1 : ClassFile.Decoder Nat) b p) fun v => f v.1 b v.2) = _
  rw [e]
  rfl
theorem rd_ret {b : ByteArray} {p : Nat} {α : Type} (x : α) : ((Pure.pure x : ClassFile.Decoder α)).runAt b p = .ok (x, p) := rfl
theorem dec_of {b : ByteArray} {pc nx : Nat} {i : Instr} (h : (ClassFile.Decoder.instr pc).runAt b pc = .ok (i, nx)) : decode b pc = .ok (i, nx - pc) := by
  unfold decode
  rw [h]
  rfl
theorem dk0 {b : ByteArray} {pc op : Nat} {i : Instr} (f : Nat → ClassFile.Decoder Instr) (hf : ClassFile.Decoder.instr pc = (Reader.u1 >>= f)) (e : f op = Pure.pure i) (h : rd b pc op) : decode b pc = .ok (i, 1) := by
  have := dec_of (b := b) (pc := pc) (nx := pc + 1) (i := i) (by rw [hf, rd_u1 h, e]; rfl)
  rwa [show pc + 1 - pc = 1 by omega] at this
theorem app_u1 {b : ByteArray} {p v : Nat} (h : rd b p v) : (Reader.u1 : ClassFile.Decoder Nat) b p = Except.ok (v, p + 1) := by
  obtain ⟨h1, h2⟩ := h
  subst h2
  show (dite (p < b.size) _ _ : ClassFile.Decoder Nat) b p = _
  rw [dif_pos h1]
  rfl
theorem app_u2 {b : ByteArray} {p v w : Nat} (h : rd b p v) (h2 : rd b (p + 1) w) : (Reader.u2 : ClassFile.Decoder Nat) b p = Except.ok (v * 256 + w, p + 2) := by
  show (Except.bind ((Reader.u1 : ClassFile.Decoder Nat) b p) fun x => Except.bind ((Reader.u1 : ClassFile.Decoder Nat) b x.2) fun y => Except.ok (x.1 * 256 + y.1, y.2)) = _
  rw [app_u1 h]
  show (Except.bind ((Reader.u1 : ClassFile.Decoder Nat) b (p + 1)) fun y => Except.ok (v * 256 + y.1, y.2)) = _
  rw [app_u1 h2]
  rfl
theorem app_s2 {b : ByteArray} {p v w : Nat} (h : rd b p v) (h2 : rd b (p + 1) w) : (Reader.s2 : ClassFile.Decoder Int) b p = Except.ok (Reader.signed 16 (v * 256 + w), p + 2) := by
  show (Except.bind ((Reader.u2 : ClassFile.Decoder Nat) b p) fun x => Except.ok (Reader.signed 16 x.1, x.2)) = _
  rw [app_u2 h h2]
  rfl
theorem app_s1 {b : ByteArray} {p v : Nat} (h : rd b p v) : (Reader.s1 : ClassFile.Decoder Int) b p = Except.ok (Reader.signed 8 v, p + 1) := by
  show (Except.bind ((Reader.u1 : ClassFile.Decoder Nat) b p) fun x => Except.ok (Reader.signed 8 x.1, x.2)) = _
  rw [app_u1 h]
  rfl
theorem run_bd {b : ByteArray} {p p2 : Nat} {α β : Type} {x : ClassFile.Decoder α} {v : α} (e : x b p = Except.ok (v, p2)) (f : α → ClassFile.Decoder β) : (x >>= f).runAt b p = (f v).runAt b p2 := by
  show (Except.bind (x b p) fun v => f v.1 b v.2) = _
  rw [e]
  rfl
abbrev dF (pc : Nat) (f : Nat → ClassFile.Decoder Instr) : Prop := ClassFile.Decoder.instr pc = (Reader.u1 >>= f)
section PD
variable {b : ByteArray} {pc op v w : Nat} {i : Instr}
theorem dkA {nx len : Nat} (f : Nat → ClassFile.Decoder Instr) (hf : dF pc f) (h : rd b pc op) (e : (f op).runAt b (pc + 1) = .ok (i, nx)) (hl : nx = pc + len) : decode b pc = .ok (i, len) := by
  subst hl
  have := dec_of (b := b) (pc := pc) (nx := pc + len) (i := i) (by rw [hf, rd_u1 h, e])
  rwa [show pc + len - pc = len by omega] at this
theorem dkU (c : Nat → Instr) (f : Nat → ClassFile.Decoder Instr) (hf : dF pc f) (e : f op = (Reader.u2 >>= fun x => Pure.pure (c x))) (h : rd b pc op) (h2 : rd b (pc + 1) v) (h3 : rd b (pc + 2) w) : decode b pc = .ok (c (v * 256 + w), 3) :=
  dkA (nx := pc + 1 + 2) f hf h (by rw [e, run_bd (app_u2 h2 h3)]; rfl) (by omega)
theorem dkS (c : Int → Instr) (f : Nat → ClassFile.Decoder Instr) (hf : dF pc f) (e : f op = (Reader.s2 >>= fun x => Pure.pure (c x))) (h : rd b pc op) (h2 : rd b (pc + 1) v) (h3 : rd b (pc + 2) w) : decode b pc = .ok (c (Reader.signed 16 (v * 256 + w)), 3) :=
  dkA (nx := pc + 1 + 2) f hf h (by rw [e, run_bd (app_s2 h2 h3)]; rfl) (by omega)
theorem dkV (c : Nat → Instr) (f : Nat → ClassFile.Decoder Instr) (hf : dF pc f) (e : f op = (Reader.u1 >>= fun x => Pure.pure (c x))) (h : rd b pc op) (h2 : rd b (pc + 1) v) : decode b pc = .ok (c v, 2) :=
  dkA (nx := pc + 1 + 1) f hf h (by rw [e, run_bd (app_u1 h2)]; rfl) (by omega)
theorem dkT (c : Int → Instr) (f : Nat → ClassFile.Decoder Instr) (hf : dF pc f) (e : f op = (Reader.s1 >>= fun x => Pure.pure (c x))) (h : rd b pc op) (h2 : rd b (pc + 1) v) : decode b pc = .ok (c (Reader.signed 8 v), 2) :=
  dkA (nx := pc + 1 + 1) f hf h (by rw [e, run_bd (app_s1 h2)]; rfl) (by omega)
theorem dkN (g : Nat → ClassFile.Decoder Instr) (f : Nat → ClassFile.Decoder Instr) (hf : dF pc f) (e : f op = (Reader.u1 >>= g)) (e2 : g v = Pure.pure i) (h : rd b pc op) (h2 : rd b (pc + 1) v) : decode b pc = .ok (i, 2) :=
  dkA (nx := pc + 1 + 1) f hf h (by rw [e, run_bd (app_u1 h2), e2]; rfl) (by omega)
theorem dk_iinc (h : rd b pc 132) (h2 : rd b (pc + 1) v) (h3 : rd b (pc + 2) w) : decode b pc = .ok (.iinc v (Reader.signed 8 w), 3) :=
  dkA (nx := pc + 1 + 1 + 1) _ rfl h (by
    show ((Reader.u1 >>= fun x => (Reader.s1 >>= fun y => Pure.pure (Instr.iinc x y)) : ClassFile.Decoder Instr)).runAt b (pc + 1) = _
    rw [run_bd (app_u1 h2), run_bd (app_s1 h3)]
    rfl) (by omega)
end PD
/-- kind (0: no operand, 1: one byte, 2: a signed one, 3: two, 4: two signed, 6: iinc, 5: others), opcode, operand -/
def enI (i : Instr) : Nat × Nat × Int := match i with
  | .aconst_null => (0, 1, 0)
  | .iaload => (0, 46, 0)
  | .laload => (0, 47, 0)
  | .aaload => (0, 50, 0)
  | .baload => (0, 51, 0)
  | .iastore => (0, 79, 0)
  | .lastore => (0, 80, 0)
  | .aastore => (0, 83, 0)
  | .bastore => (0, 84, 0)
  | .pop => (0, 87, 0)
  | .dup => (0, 89, 0)
  | .dup2 => (0, 92, 0)
  | .iadd => (0, 96, 0)
  | .ladd => (0, 97, 0)
  | .isub => (0, 100, 0)
  | .lsub => (0, 101, 0)
  | .imul => (0, 104, 0)
  | .lmul => (0, 105, 0)
  | .idiv => (0, 108, 0)
  | .ldiv => (0, 109, 0)
  | .irem => (0, 112, 0)
  | .lrem => (0, 113, 0)
  | .ineg => (0, 116, 0)
  | .ishl => (0, 120, 0)
  | .lshl => (0, 121, 0)
  | .ishr => (0, 122, 0)
  | .iushr => (0, 124, 0)
  | .iand => (0, 126, 0)
  | .land => (0, 127, 0)
  | .ior => (0, 128, 0)
  | .lor => (0, 129, 0)
  | .ixor => (0, 130, 0)
  | .i2l => (0, 133, 0)
  | .l2i => (0, 136, 0)
  | .i2b => (0, 145, 0)
  | .lcmp => (0, 148, 0)
  | .ireturn => (0, 172, 0)
  | .lreturn => (0, 173, 0)
  | .areturn => (0, 176, 0)
  | .return_ => (0, 177, 0)
  | .arraylength => (0, 190, 0)
  | .iload_n n => (0, 26 + n.val, 0)
  | .lload_n n => (0, 30 + n.val, 0)
  | .aload_n n => (0, 42 + n.val, 0)
  | .istore_n n => (0, 59 + n.val, 0)
  | .lstore_n n => (0, 63 + n.val, 0)
  | .astore_n n => (0, 75 + n.val, 0)
  | .lconst n => (0, 9 + n.val, 0)
  | .iconst n => (match n with | .ofNat 0 => (0, 3, 0) | .ofNat 1 => (0, 4, 0) | .ofNat 2 => (0, 5, 0) | .ofNat 3 => (0, 6, 0) | .ofNat 4 => (0, 7, 0) | .ofNat 5 => (0, 8, 0) | .negSucc 0 => (0, 2, 0) | _ => (5, 0, 0))
  | .iload k => (1, 21, k)
  | .lload k => (1, 22, k)
  | .aload k => (1, 25, k)
  | .istore k => (1, 54, k)
  | .lstore k => (1, 55, k)
  | .astore k => (1, 58, k)
  | .ldc k => (1, 18, k)
  | .newarray t => (match t with | .boolean => (1, 188, 4) | .byte => (1, 188, 8) | .int => (1, 188, 10) | .long => (1, 188, 11) | _ => (5, 0, 0))
  | .bipush n => (2, 16, n)
  | .ldc_w k => (3, 19, k)
  | .ldc2_w k => (3, 20, k)
  | .getstatic k => (3, 178, k)
  | .getfield k => (3, 180, k)
  | .putfield k => (3, 181, k)
  | .invokevirtual k => (3, 182, k)
  | .invokespecial k => (3, 183, k)
  | .invokestatic k => (3, 184, k)
  | .new k => (3, 187, k)
  | .anewarray k => (3, 189, k)
  | .sipush k => (4, 17, k)
  | .goto k => (4, 167, k)
  | .ifnull k => (4, 198, k)
  | .ifnonnull k => (4, 199, k)
  | .ifCond c k => (4, (match c with | .eq => 153 | .ne => 154 | .lt => 155 | .ge => 156 | .gt => 157 | .le => 158), k)
  | .if_icmp c k => (4, (match c with | .eq => 159 | .ne => 160 | .lt => 161 | .ge => 162 | .gt => 163 | .le => 164), k)
  | .iinc _ _ => (6, 132, 0)
  | _ => (5, 0, 0)
def chB1 (b : ByteArray) (pc : Nat) (i : Instr) (len : Nat) (l : List UInt8) : Bool := match (enI i).1, l with
  | 0, x :: _ => Nat.beq len 1 && Nat.beq x.toNat (enI i).2.1
  | 1, x :: y :: _ => Nat.beq len 2 && Nat.beq x.toNat (enI i).2.1 && decide ((y.toNat : Int) = (enI i).2.2)
  | 2, x :: y :: _ => Nat.beq len 2 && Nat.beq x.toNat (enI i).2.1 && decide (Reader.signed 8 y.toNat = (enI i).2.2)
  | 3, x :: y :: z :: _ => Nat.beq len 3 && Nat.beq x.toNat (enI i).2.1 && decide (((y.toNat * 256 + z.toNat : Nat) : Int) = (enI i).2.2)
  | 4, x :: y :: z :: _ => Nat.beq len 3 && Nat.beq x.toNat (enI i).2.1 && decide (Reader.signed 16 (y.toNat * 256 + z.toNat) = (enI i).2.2)
  | 6, x :: y :: z :: _ => Nat.beq len 3 && Nat.beq x.toNat 132 && decide (i = .iinc y.toNat (Reader.signed 8 z.toNat))
  | _, _ => decide (decode b pc = .ok (i, len))
def chPs (b : ByteArray) : Nat → List UInt8 → AC → Bool
  | _, _, [] => true
  | pc, l, e :: t => Nat.beq e.1 pc && chB1 b pc e.2.1 e.2.2.1 l && chPs b (pc + e.2.2.1) (l.drop e.2.2.1) t
theorem rd_of {b : ByteArray} {pc k : Nat} {x : UInt8} (h : (b.data.toList.drop pc)[k]? = some x) : rd b (pc + k) x.toNat := by
  rw [List.getElem?_drop] at h
  obtain ⟨h1, h2⟩ := List.getElem?_eq_some_iff.mp h
  have h3 : pc + k < b.data.size := by rwa [Array.length_toList] at h1
  refine ⟨h3, ?_⟩
  rw [← h2]
  rfl
theorem en_0 {b : ByteArray} {pc : Nat} {i : Instr} (he : (enI i).1 = 0) (h : rd b pc (enI i).2.1) : decode b pc = .ok (i, 1) := by
  cases i with
  | aconst_null => exact dk0 _ rfl rfl h
  | iaload => exact dk0 _ rfl rfl h
  | laload => exact dk0 _ rfl rfl h
  | aaload => exact dk0 _ rfl rfl h
  | baload => exact dk0 _ rfl rfl h
  | iastore => exact dk0 _ rfl rfl h
  | lastore => exact dk0 _ rfl rfl h
  | aastore => exact dk0 _ rfl rfl h
  | bastore => exact dk0 _ rfl rfl h
  | pop => exact dk0 _ rfl rfl h
  | dup => exact dk0 _ rfl rfl h
  | dup2 => exact dk0 _ rfl rfl h
  | iadd => exact dk0 _ rfl rfl h
  | ladd => exact dk0 _ rfl rfl h
  | isub => exact dk0 _ rfl rfl h
  | lsub => exact dk0 _ rfl rfl h
  | imul => exact dk0 _ rfl rfl h
  | lmul => exact dk0 _ rfl rfl h
  | idiv => exact dk0 _ rfl rfl h
  | ldiv => exact dk0 _ rfl rfl h
  | irem => exact dk0 _ rfl rfl h
  | lrem => exact dk0 _ rfl rfl h
  | ineg => exact dk0 _ rfl rfl h
  | ishl => exact dk0 _ rfl rfl h
  | lshl => exact dk0 _ rfl rfl h
  | ishr => exact dk0 _ rfl rfl h
  | iushr => exact dk0 _ rfl rfl h
  | iand => exact dk0 _ rfl rfl h
  | land => exact dk0 _ rfl rfl h
  | ior => exact dk0 _ rfl rfl h
  | lor => exact dk0 _ rfl rfl h
  | ixor => exact dk0 _ rfl rfl h
  | i2l => exact dk0 _ rfl rfl h
  | l2i => exact dk0 _ rfl rfl h
  | i2b => exact dk0 _ rfl rfl h
  | lcmp => exact dk0 _ rfl rfl h
  | ireturn => exact dk0 _ rfl rfl h
  | lreturn => exact dk0 _ rfl rfl h
  | areturn => exact dk0 _ rfl rfl h
  | return_ => exact dk0 _ rfl rfl h
  | arraylength => exact dk0 _ rfl rfl h
  | iload_n n =>
    match n, h with
    | ⟨0, _⟩, h => exact dk0 _ rfl rfl h
    | ⟨1, _⟩, h => exact dk0 _ rfl rfl h
    | ⟨2, _⟩, h => exact dk0 _ rfl rfl h
    | ⟨3, _⟩, h => exact dk0 _ rfl rfl h
  | lload_n n =>
    match n, h with
    | ⟨0, _⟩, h => exact dk0 _ rfl rfl h
    | ⟨1, _⟩, h => exact dk0 _ rfl rfl h
    | ⟨2, _⟩, h => exact dk0 _ rfl rfl h
    | ⟨3, _⟩, h => exact dk0 _ rfl rfl h
  | aload_n n =>
    match n, h with
    | ⟨0, _⟩, h => exact dk0 _ rfl rfl h
    | ⟨1, _⟩, h => exact dk0 _ rfl rfl h
    | ⟨2, _⟩, h => exact dk0 _ rfl rfl h
    | ⟨3, _⟩, h => exact dk0 _ rfl rfl h
  | istore_n n =>
    match n, h with
    | ⟨0, _⟩, h => exact dk0 _ rfl rfl h
    | ⟨1, _⟩, h => exact dk0 _ rfl rfl h
    | ⟨2, _⟩, h => exact dk0 _ rfl rfl h
    | ⟨3, _⟩, h => exact dk0 _ rfl rfl h
  | lstore_n n =>
    match n, h with
    | ⟨0, _⟩, h => exact dk0 _ rfl rfl h
    | ⟨1, _⟩, h => exact dk0 _ rfl rfl h
    | ⟨2, _⟩, h => exact dk0 _ rfl rfl h
    | ⟨3, _⟩, h => exact dk0 _ rfl rfl h
  | astore_n n =>
    match n, h with
    | ⟨0, _⟩, h => exact dk0 _ rfl rfl h
    | ⟨1, _⟩, h => exact dk0 _ rfl rfl h
    | ⟨2, _⟩, h => exact dk0 _ rfl rfl h
    | ⟨3, _⟩, h => exact dk0 _ rfl rfl h
  | lconst n =>
    match n, h with
    | ⟨0, _⟩, h => exact dk0 _ rfl rfl h
    | ⟨1, _⟩, h => exact dk0 _ rfl rfl h
  | iconst n =>
    match n, he, h with
    | .ofNat 0, _, h => exact dk0 _ rfl rfl h
    | .ofNat 1, _, h => exact dk0 _ rfl rfl h
    | .ofNat 2, _, h => exact dk0 _ rfl rfl h
    | .ofNat 3, _, h => exact dk0 _ rfl rfl h
    | .ofNat 4, _, h => exact dk0 _ rfl rfl h
    | .ofNat 5, _, h => exact dk0 _ rfl rfl h
    | .negSucc 0, _, h => exact dk0 _ rfl rfl h
    | .ofNat (_ + 6), he, _ => cases he
    | .negSucc (_ + 1), he, _ => cases he
  | newarray t => cases t <;> cases he
  | _ => cases he
theorem en_1 {b : ByteArray} {pc v : Nat} {i : Instr} (he : (enI i).1 = 1) (h : rd b pc (enI i).2.1) (h2 : rd b (pc + 1) v) (hv : (v : Int) = (enI i).2.2) : decode b pc = .ok (i, 2) := by
  cases i with
  | iload k =>
    have hv : v = k := Int.ofNat.inj hv
    subst hv
    exact dkV _ _ rfl rfl h h2
  | lload k =>
    have hv : v = k := Int.ofNat.inj hv
    subst hv
    exact dkV _ _ rfl rfl h h2
  | aload k =>
    have hv : v = k := Int.ofNat.inj hv
    subst hv
    exact dkV _ _ rfl rfl h h2
  | istore k =>
    have hv : v = k := Int.ofNat.inj hv
    subst hv
    exact dkV _ _ rfl rfl h h2
  | lstore k =>
    have hv : v = k := Int.ofNat.inj hv
    subst hv
    exact dkV _ _ rfl rfl h h2
  | astore k =>
    have hv : v = k := Int.ofNat.inj hv
    subst hv
    exact dkV _ _ rfl rfl h h2
  | ldc k =>
    have hv : v = k := Int.ofNat.inj hv
    subst hv
    exact dkV _ _ rfl rfl h h2
  | newarray t =>
    cases t with
    | boolean =>
      have hv : v = 4 := Int.ofNat.inj hv
      subst hv
      exact dkN _ _ rfl rfl rfl h h2
    | byte =>
      have hv : v = 8 := Int.ofNat.inj hv
      subst hv
      exact dkN _ _ rfl rfl rfl h h2
    | int =>
      have hv : v = 10 := Int.ofNat.inj hv
      subst hv
      exact dkN _ _ rfl rfl rfl h h2
    | long =>
      have hv : v = 11 := Int.ofNat.inj hv
      subst hv
      exact dkN _ _ rfl rfl rfl h h2
    | _ => cases he
  | iconst n =>
    match n, he with
    | .ofNat 0, he => cases he
    | .ofNat 1, he => cases he
    | .ofNat 2, he => cases he
    | .ofNat 3, he => cases he
    | .ofNat 4, he => cases he
    | .ofNat 5, he => cases he
    | .negSucc 0, he => cases he
    | .ofNat (_ + 6), he => cases he
    | .negSucc (_ + 1), he => cases he
  | _ => cases he
theorem en_2 {b : ByteArray} {pc v : Nat} {i : Instr} (he : (enI i).1 = 2) (h : rd b pc (enI i).2.1) (h2 : rd b (pc + 1) v) (hv : Reader.signed 8 v = (enI i).2.2) : decode b pc = .ok (i, 2) := by
  cases i with
  | bipush n =>
    have hv : Reader.signed 8 v = n := hv
    subst hv
    exact dkT _ _ rfl rfl h h2
  | newarray t => cases t <;> cases he
  | iconst n =>
    match n, he with
    | .ofNat 0, he => cases he
    | .ofNat 1, he => cases he
    | .ofNat 2, he => cases he
    | .ofNat 3, he => cases he
    | .ofNat 4, he => cases he
    | .ofNat 5, he => cases he
    | .negSucc 0, he => cases he
    | .ofNat (_ + 6), he => cases he
    | .negSucc (_ + 1), he => cases he
  | _ => cases he
theorem en_3 {b : ByteArray} {pc v w : Nat} {i : Instr} (he : (enI i).1 = 3) (h : rd b pc (enI i).2.1) (h2 : rd b (pc + 1) v) (h3 : rd b (pc + 2) w) (hv : ((v * 256 + w : Nat) : Int) = (enI i).2.2) : decode b pc = .ok (i, 3) := by
  cases i with
  | ldc_w k =>
    have hv : v * 256 + w = k := Int.ofNat.inj hv
    subst hv
    exact dkU _ _ rfl rfl h h2 h3
  | ldc2_w k =>
    have hv : v * 256 + w = k := Int.ofNat.inj hv
    subst hv
    exact dkU _ _ rfl rfl h h2 h3
  | getstatic k =>
    have hv : v * 256 + w = k := Int.ofNat.inj hv
    subst hv
    exact dkU _ _ rfl rfl h h2 h3
  | getfield k =>
    have hv : v * 256 + w = k := Int.ofNat.inj hv
    subst hv
    exact dkU _ _ rfl rfl h h2 h3
  | putfield k =>
    have hv : v * 256 + w = k := Int.ofNat.inj hv
    subst hv
    exact dkU _ _ rfl rfl h h2 h3
  | invokevirtual k =>
    have hv : v * 256 + w = k := Int.ofNat.inj hv
    subst hv
    exact dkU _ _ rfl rfl h h2 h3
  | invokespecial k =>
    have hv : v * 256 + w = k := Int.ofNat.inj hv
    subst hv
    exact dkU _ _ rfl rfl h h2 h3
  | invokestatic k =>
    have hv : v * 256 + w = k := Int.ofNat.inj hv
    subst hv
    exact dkU _ _ rfl rfl h h2 h3
  | new k =>
    have hv : v * 256 + w = k := Int.ofNat.inj hv
    subst hv
    exact dkU _ _ rfl rfl h h2 h3
  | anewarray k =>
    have hv : v * 256 + w = k := Int.ofNat.inj hv
    subst hv
    exact dkU _ _ rfl rfl h h2 h3
  | newarray t => cases t <;> cases he
  | iconst n =>
    match n, he with
    | .ofNat 0, he => cases he
    | .ofNat 1, he => cases he
    | .ofNat 2, he => cases he
    | .ofNat 3, he => cases he
    | .ofNat 4, he => cases he
    | .ofNat 5, he => cases he
    | .negSucc 0, he => cases he
    | .ofNat (_ + 6), he => cases he
    | .negSucc (_ + 1), he => cases he
  | _ => cases he
theorem en_4 {b : ByteArray} {pc v w : Nat} {i : Instr} (he : (enI i).1 = 4) (h : rd b pc (enI i).2.1) (h2 : rd b (pc + 1) v) (h3 : rd b (pc + 2) w) (hv : Reader.signed 16 (v * 256 + w) = (enI i).2.2) : decode b pc = .ok (i, 3) := by
  cases i with
  | sipush k =>
    have hv : Reader.signed 16 (v * 256 + w) = k := hv
    subst hv
    exact dkS _ _ rfl rfl h h2 h3
  | goto k =>
    have hv : Reader.signed 16 (v * 256 + w) = k := hv
    subst hv
    exact dkS _ _ rfl rfl h h2 h3
  | ifnull k =>
    have hv : Reader.signed 16 (v * 256 + w) = k := hv
    subst hv
    exact dkS _ _ rfl rfl h h2 h3
  | ifnonnull k =>
    have hv : Reader.signed 16 (v * 256 + w) = k := hv
    subst hv
    exact dkS _ _ rfl rfl h h2 h3
  | ifCond c k =>
    have hv : Reader.signed 16 (v * 256 + w) = k := hv
    subst hv
    cases c <;> exact dkS _ _ rfl rfl h h2 h3
  | if_icmp c k =>
    have hv : Reader.signed 16 (v * 256 + w) = k := hv
    subst hv
    cases c <;> exact dkS _ _ rfl rfl h h2 h3
  | newarray t => cases t <;> cases he
  | iconst n =>
    match n, he with
    | .ofNat 0, he => cases he
    | .ofNat 1, he => cases he
    | .ofNat 2, he => cases he
    | .ofNat 3, he => cases he
    | .ofNat 4, he => cases he
    | .ofNat 5, he => cases he
    | .negSucc 0, he => cases he
    | .ofNat (_ + 6), he => cases he
    | .negSucc (_ + 1), he => cases he
  | _ => cases he
theorem chB1_ok {b : ByteArray} {pc len : Nat} {i : Instr} {l : List UInt8} (hl : l = b.data.toList.drop pc) (h : chB1 b pc i len l = true) : decode b pc = .ok (i, len) := by
  have r0 : ∀ x t, l = x :: t → rd b pc x.toNat := fun x t e => rd_of (k := 0) (by rw [← hl, e]; rfl)
  have r1 : ∀ x y t, l = x :: y :: t → rd b (pc + 1) y.toNat := fun x y t e => rd_of (k := 1) (by rw [← hl, e]; rfl)
  have r2 : ∀ x y z t, l = x :: y :: z :: t → rd b (pc + 2) z.toNat := fun x y z t e => rd_of (k := 2) (by rw [← hl, e]; rfl)
  unfold chB1 at h
  split at h
  · rename_i x t he
    rw [Bool.and_eq_true] at h
    have e1 := Nat.eq_of_beq_eq_true h.1
    have e2 := Nat.eq_of_beq_eq_true h.2
    subst e1
    exact en_0 he (e2 ▸ r0 _ _ rfl)
  · rename_i x y t he
    simp only [Bool.and_eq_true, Nat.beq_eq, decide_eq_true_eq] at h
    obtain ⟨⟨e1, e2⟩, e3⟩ := h
    subst e1
    exact en_1 he (e2 ▸ r0 _ _ rfl) (r1 _ _ _ rfl) e3
  · rename_i x y t he
    simp only [Bool.and_eq_true, Nat.beq_eq, decide_eq_true_eq] at h
    obtain ⟨⟨e1, e2⟩, e3⟩ := h
    subst e1
    exact en_2 he (e2 ▸ r0 _ _ rfl) (r1 _ _ _ rfl) e3
  · rename_i x y z t he
    simp only [Bool.and_eq_true, Nat.beq_eq, decide_eq_true_eq] at h
    obtain ⟨⟨e1, e2⟩, e3⟩ := h
    subst e1
    exact en_3 he (e2 ▸ r0 _ _ rfl) (r1 _ _ _ rfl) (r2 _ _ _ _ rfl) e3
  · rename_i x y z t he
    simp only [Bool.and_eq_true, Nat.beq_eq, decide_eq_true_eq] at h
    obtain ⟨⟨e1, e2⟩, e3⟩ := h
    subst e1
    exact en_4 he (e2 ▸ r0 _ _ rfl) (r1 _ _ _ rfl) (r2 _ _ _ _ rfl) e3
  · rename_i x y z t he
    simp only [Bool.and_eq_true, Nat.beq_eq, decide_eq_true_eq] at h
    obtain ⟨⟨e1, e2⟩, e3⟩ := h
    subst e1
    subst e3
    exact dk_iinc (e2 ▸ r0 _ _ rfl) (r1 _ _ _ rfl) (r2 _ _ _ _ rfl)
  · exact of_decide_eq_true h
theorem chPs_ok {b : ByteArray} : ∀ (cd : AC) (pc : Nat) (l : List UInt8), l = b.data.toList.drop pc → chPs b pc l cd = true → ∀ e ∈ cd, decode b e.1 = .ok (e.2.1, e.2.2.1)
  | [], _, _, _, _, e, he => by cases he
  | x :: t, pc, l, hl, h, e, he => by
    have h : (Nat.beq x.1 pc && chB1 b pc x.2.1 x.2.2.1 l && chPs b (pc + x.2.2.1) (l.drop x.2.2.1) t) = true := h
    rw [Bool.and_eq_true, Bool.and_eq_true] at h
    obtain ⟨⟨h1, h2⟩, h3⟩ := h
    have h1 := Nat.eq_of_beq_eq_true h1
    rcases List.mem_cons.mp he with z | z
    · subst z
      rw [h1]
      exact chB1_ok hl h2
    · exact chPs_ok t (pc + x.2.2.1) (l.drop x.2.2.1) (by rw [hl, List.drop_drop]) h3 e z
