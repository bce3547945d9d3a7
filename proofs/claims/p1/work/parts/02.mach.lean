/-! A small machine over named cells: what it answers, the real machine answers (part 03 and on). Values: an int, a long, a reference or null. -/
abbrev AV : Type := Sum Int32 (Sum Int64 (Option Nat))
abbrev vI (x : Int32) : AV := Sum.inl x
abbrev vJ (x : Int64) : AV := Sum.inr (Sum.inl x)
abbrev vR (o : Option Nat) : AV := Sum.inr (Sum.inr o)
/-- (cells, slots), tags, lengths, ints, longs, references. Tags: 0 int[], 1 long[], 2 byte[], 3 boolean[], 4 Text[], 5 Land[], 10 + k an object of kind k. Cells 0, 1, 2: the script, the years' bounds, the words. -/
abbrev AH : Type := (Nat × Nat) × (Nat → Nat) × (Nat → Nat) × (Nat → Nat → Int32) × (Nat → Nat → Int64) × (Nat → Nat → Option Nat)
def hpn (h : AH) : Nat := h.1.1
def hps (h : AH) : Nat := h.1.2
def hpT (h : AH) (a : Nat) : Nat := h.2.1 a
def hpL (h : AH) (a : Nat) : Nat := h.2.2.1 a
def hpI (h : AH) (a i : Nat) : Int32 := h.2.2.2.1 a i
def hpJ (h : AH) (a i : Nat) : Int64 := h.2.2.2.2.1 a i
def hpR (h : AH) (a i : Nat) : Option Nat := h.2.2.2.2.2 a i
def wrI (h : AH) (a i : Nat) (x : Int32) : AH := (h.1, h.2.1, h.2.2.1, (fun b j => if b = a ∧ j = i then x else h.2.2.2.1 b j), h.2.2.2.2.1, h.2.2.2.2.2)
def wrJ (h : AH) (a i : Nat) (x : Int64) : AH := (h.1, h.2.1, h.2.2.1, h.2.2.2.1, (fun b j => if b = a ∧ j = i then x else h.2.2.2.2.1 b j), h.2.2.2.2.2)
def wrR (h : AH) (a i : Nat) (x : Option Nat) : AH := (h.1, h.2.1, h.2.2.1, h.2.2.2.1, h.2.2.2.2.1, (fun b j => if b = a ∧ j = i then x else h.2.2.2.2.2 b j))
/-- a new cell -/
def mkC (h : AH) (t n : Nat) : AH := ((h.1.1 + 1, h.1.2 + n), (fun b => if b = h.1.1 then t else h.2.1 b), (fun b => if b = h.1.1 then n else h.2.2.1 b), (fun b j => if b = h.1.1 then 0 else h.2.2.2.1 b j), (fun b j => if b = h.1.1 then 0 else h.2.2.2.2.1 b j), (fun b j => if b = h.1.1 then none else h.2.2.2.2.2 b j))
/-- a row of ints copied -/
def cpI (h : AH) (a i b j n : Nat) : AH := (h.1, h.2.1, h.2.2.1, (fun q k => if q = b ∧ j ≤ k ∧ k < j + n then h.2.2.2.1 a (i + (k - j)) else h.2.2.2.1 q k), h.2.2.2.2.1, h.2.2.2.2.2)
abbrev RV : Type := Int32 × Int64 × Option Nat
abbrev RR : Type := RV × AH
abbrev rI (x : Int32) : RV := (x, 0, none)
abbrev rJ (x : Int64) : RV := (0, x, none)
abbrev rR (o : Option Nat) : RV := (0, 0, o)
abbrev r0 : RV := (0, 0, none)
def oB (o : Option Nat) (k : Nat → Option RR) : Option RR := match o with
  | none => none
  | some a => k a
/-- the text of the words: its length, its signs -/
def wB (o : Option Nat) (k : Option RR) : Option RR := if o = some 2 then k else none
def am_wt : String := "town sunday bells hats own had miles year mood done latest home has likes alters bars swap round road pass with to times if or and not "
def am_wb : List Int32 := am_wt.toList.map fun c => Int32.ofNat c.toNat
def chB (i : Int32) (k : Int32 → Option RR) : Option RR := if ¬ i < 0 ∧ i.toNatClampNeg < 135 then k (am_wb.getD i.toNatClampNeg 0) else none
/-- an object of a tag is asked for -/
def ck (h : AH) (a t : Nat) (k : Option RR) : Option RR := if hpT h a = t then k else none
def gtI (h : AH) (a t i : Nat) (k : Int32 → Option RR) : Option RR := if hpT h a = t then k (hpI h a i) else none
def gtR (h : AH) (a t i : Nat) (k : Option Nat → Option RR) : Option RR := if hpT h a = t then k (hpR h a i) else none
def ptI (h : AH) (a t i : Nat) (x : Int32) (k : AH → Option RR) : Option RR := if hpT h a = t ∧ 3 ≤ a then k (wrI h a i x) else none
def ptZ (h : AH) (a t i : Nat) (x : Int32) (k : AH → Option RR) : Option RR := if (hpT h a = t ∧ 3 ≤ a) ∧ (x = 0 ∨ x = 1) then k (wrI h a i x) else none
def ptR (h : AH) (a t i : Nat) (x : Option Nat) (k : AH → Option RR) : Option RR := if hpT h a = t ∧ 3 ≤ a then k (wrR h a i x) else none
def inb (i : Int32) (n : Nat) : Prop := ¬ (i < 0 ∨ n ≤ i.toNatClampNeg)
def alI (h : AH) (a : Nat) (i : Int32) (k : Int32 → Option RR) : Option RR := if hpT h a = 0 ∧ ¬ (i < 0 ∨ hpL h a ≤ i.toNatClampNeg) then k (hpI h a i.toNatClampNeg) else none
def alB (h : AH) (a : Nat) (i : Int32) (k : Int32 → Option RR) : Option RR := if (hpT h a = 2 ∨ hpT h a = 3) ∧ ¬ (i < 0 ∨ hpL h a ≤ i.toNatClampNeg) then k (hpI h a i.toNatClampNeg) else none
def alJ (h : AH) (a : Nat) (i : Int32) (k : Int64 → Option RR) : Option RR := if hpT h a = 1 ∧ ¬ (i < 0 ∨ hpL h a ≤ i.toNatClampNeg) then k (hpJ h a i.toNatClampNeg) else none
def alR (h : AH) (a : Nat) (i : Int32) (k : Option Nat → Option RR) : Option RR := if (hpT h a = 4 ∨ hpT h a = 5) ∧ ¬ (i < 0 ∨ hpL h a ≤ i.toNatClampNeg) then k (hpR h a i.toNatClampNeg) else none
def asI (h : AH) (a : Nat) (i x : Int32) (k : AH → Option RR) : Option RR := if (hpT h a = 0 ∧ 3 ≤ a) ∧ ¬ (i < 0 ∨ hpL h a ≤ i.toNatClampNeg) then k (wrI h a i.toNatClampNeg x) else none
def asB (h : AH) (a : Nat) (i x : Int32) (k : AH → Option RR) : Option RR :=
  if (hpT h a = 2 ∧ 3 ≤ a) ∧ ¬ (i < 0 ∨ hpL h a ≤ i.toNatClampNeg) then k (wrI h a i.toNatClampNeg (vp_nar .byte x))
  else if (hpT h a = 3 ∧ 3 ≤ a) ∧ ¬ (i < 0 ∨ hpL h a ≤ i.toNatClampNeg) then k (wrI h a i.toNatClampNeg (vp_nar .boolean x)) else none
def asJ (h : AH) (a : Nat) (i : Int32) (x : Int64) (k : AH → Option RR) : Option RR := if (hpT h a = 1 ∧ 3 ≤ a) ∧ ¬ (i < 0 ∨ hpL h a ≤ i.toNatClampNeg) then k (wrJ h a i.toNatClampNeg x) else none
/-- of tag 4: texts; of tag 5: lands -/
def okR (h : AH) (t : Nat) (o : Option Nat) : Prop := ∀ v, o = some v → 3 ≤ v ∧ v < hpn h ∧ ((t = 4 ∧ hpT h v = 19) ∨ (t = 5 ∧ hpT h v = 11))
def asR (h : AH) (a : Nat) (i : Int32) (o : Option Nat) (k : AH → Option RR) : Option RR := match o with
  | none => if ((hpT h a = 4 ∨ hpT h a = 5) ∧ 3 ≤ a) ∧ ¬ (i < 0 ∨ hpL h a ≤ i.toNatClampNeg) then k (wrR h a i.toNatClampNeg none) else none
  | some v => if (((hpT h a = 4 ∧ hpT h v = 19) ∨ (hpT h a = 5 ∧ hpT h v = 11)) ∧ 3 ≤ a ∧ 3 ≤ v) ∧ ¬ (i < 0 ∨ hpL h a ≤ i.toNatClampNeg) then k (wrR h a i.toNatClampNeg (some v)) else none
def alen (h : AH) (a : Nat) (k : Int32 → Option RR) : Option RR := if hpT h a < 6 then k (Int32.ofNat (hpL h a)) else none
def nwO (h : AH) (ci : Nat) (k : Nat → AH → Option RR) : Option RR := k (hpn h) (mkC h (10 + ci) (am_nf ci))
def nwA (h : AH) (t : Nat) (n : Int32) (k : Nat → AH → Option RR) : Option RR := if ¬ n < 0 ∧ n.toNatClampNeg ≤ 1000000 then k (hpn h) (mkC h t n.toNatClampNeg) else none
def dvI (x y : Int32) (k : Int32 → Option RR) : Option RR := if y = 0 then none else k (x / y)
def rmI (x y : Int32) (k : Int32 → Option RR) : Option RR := if y = 0 then none else k (x - x / y * y)
def dvJ (x y : Int64) (k : Int64 → Option RR) : Option RR := if y = 0 then none else k (x / y)
def rmJ (x y : Int64) (k : Int64 → Option RR) : Option RR := if y = 0 then none else k (x - x / y * y)
def acp (h : AH) (o : Option Nat) (i : Int32) (o2 : Option Nat) (j n : Int32) (k : AH → Option RR) : Option RR :=
  oB o fun a => oB o2 fun b => if (hpT h a = 0 ∧ hpT h b = 0 ∧ a ≠ b ∧ 3 ≤ a ∧ 3 ≤ b) ∧ ¬ i < 0 ∧ ¬ j < 0 ∧ ¬ n < 0 ∧ i.toNatClampNeg + n.toNatClampNeg ≤ hpL h a ∧ j.toNatClampNeg + n.toNatClampNeg ≤ hpL h b
    then k (cpI h a i.toNatClampNeg b j.toNatClampNeg n.toNatClampNeg) else none
def cI (o : Option RR) (k : Int32 → AH → Option RR) : Option RR := match o with
  | none => none
  | some q => k q.1.1 q.2
def cJ (o : Option RR) (k : Int64 → AH → Option RR) : Option RR := match o with
  | none => none
  | some q => k q.1.2.1 q.2
def cR (o : Option RR) (k : Option Nat → AH → Option RR) : Option RR := match o with
  | none => none
  | some q => k q.1.2.2 q.2
def cV (o : Option RR) (k : AH → Option RR) : Option RR := match o with
  | none => none
  | some q => k q.2
def jmax (x y : Int32) : Int32 := if x < y then y else x
def jmin (x y : Int32) : Int32 := if y < x then y else x
/-- a boolean is answered -/
def rZ (x : Int32) (h : AH) : Option RR := if x = 0 ∨ x = 1 then some (rI x, h) else none
/-- an instruction: where, which, how long; and what its pool entry means -/
abbrev AE : Type := Nat × Instr × Nat × Nat × Nat × Nat × Int
abbrev AC : Type := List AE
def am_drop : AC → Nat → AC
  | [], _ => []
  | q :: t, pc => cond (Nat.beq q.1 pc) (q :: t) (am_drop t pc)
abbrev AL : Type := List (Option AV)
abbrev AK : Type := Nat → AL → List AV → AH → Option RR
abbrev AG : Type := AC → AL → List AV → AH → Option RR
def am_tgt (pc : Nat) (off : Int) : Nat := ((pc : Int) + off).toNat
def am_ok1 (ls : AL) (i : Nat) : Bool := Nat.blt i ls.length && match i with
  | 0 => true
  | j + 1 => match ls[j]? with
    | some (some (.inr (.inl _))) => false
    | _ => true
def am_pop : Nat → List AV → List AV → Option (List AV × List AV)
  | 0, st, acc => some (acc, st)
  | _ + 1, [], _ => none
  | n + 1, v :: st, acc => am_pop n st (v :: acc)
/-- a number's place in a table of jumps -/
def am_tab (x : Int32) (F : Int → Option RR) (dflt : Int) : Int → List Int → Option RR
  | _, [] => F dflt
  | i, o :: t => if x.toInt = i then F o else am_tab x F dflt (i + 1) t
/-- where stacks may be asked for by a call: the words below are few -/
def am_low (st : List AV) : Bool := Nat.ble st.length 4
def am_ret (rt : Nat) (r : RV) (t : AC) (ls : AL) (st : List AV) (h : AH) (Gf : AG) : Option RR := match rt with
  | 0 => Gf t ls st h
  | 1 => Gf t ls (vI r.1 :: st) h
  | 2 => Gf t ls (vJ r.2.1 :: st) h
  | _ => Gf t ls (vR r.2.2 :: st) h
def am_call (rt : Nat) (o : Option RR) (t : AC) (ls : AL) (st : List AV) (Gf : AG) : Option RR := match rt with
  | 0 => cV o fun h => Gf t ls st h
  | 1 => cI o fun x h => Gf t ls (vI x :: st) h
  | 2 => cJ o fun x h => Gf t ls (vJ x :: st) h
  | _ => cR o fun x h => Gf t ls (vR x :: st) h
/-- one step; call: what callees answer; rt: 0 void, 1 int, 2 long, 3 reference, 4 boolean -/
def am_step (call : Nat → List AV → AH → Option RR) (rt : Nat) (cd : AC) (e : AE) (t : AC) (ls : AL) (st : List AV) (h : AH) (Gf : AG) : Option RR :=
  match e.2.1 with
  | .iload i => match ls[i]? with
    | some (some (.inl x)) => Gf t ls (vI x :: st) h
    | _ => none
  | .iload_n i => match ls[i.val]? with
    | some (some (.inl x)) => Gf t ls (vI x :: st) h
    | _ => none
  | .lload i => match ls[i]? with
    | some (some (.inr (.inl x))) => Gf t ls (vJ x :: st) h
    | _ => none
  | .lload_n i => match ls[i.val]? with
    | some (some (.inr (.inl x))) => Gf t ls (vJ x :: st) h
    | _ => none
  | .aload i => match ls[i]? with
    | some (some (.inr (.inr x))) => Gf t ls (vR x :: st) h
    | _ => none
  | .aload_n i => match ls[i.val]? with
    | some (some (.inr (.inr x))) => Gf t ls (vR x :: st) h
    | _ => none
  | .istore i => match st with
    | .inl x :: st => cond (am_ok1 ls i) (Gf t (ls.set i (some (vI x))) st h) none
    | _ => none
  | .istore_n i => match st with
    | .inl x :: st => cond (am_ok1 ls i.val) (Gf t (ls.set i.val (some (vI x))) st h) none
    | _ => none
  | .lstore i => match st with
    | .inr (.inl x) :: st => cond (am_ok1 ls i && Nat.blt (i + 1) ls.length) (Gf t ((ls.set i (some (vJ x))).set (i + 1) none) st h) none
    | _ => none
  | .lstore_n i => match st with
    | .inr (.inl x) :: st => cond (am_ok1 ls i.val && Nat.blt (i.val + 1) ls.length) (Gf t ((ls.set i.val (some (vJ x))).set (i.val + 1) none) st h) none
    | _ => none
  | .astore i => match st with
    | .inr (.inr x) :: st => cond (am_ok1 ls i) (Gf t (ls.set i (some (vR x))) st h) none
    | _ => none
  | .astore_n i => match st with
    | .inr (.inr x) :: st => cond (am_ok1 ls i.val) (Gf t (ls.set i.val (some (vR x))) st h) none
    | _ => none
  | .iinc i n => match ls[i]? with
    | some (some (.inl x)) => cond (am_ok1 ls i) (Gf t (ls.set i (some (vI (x + Int32.ofInt n)))) st h) none
    | _ => none
  | .iconst n => Gf t ls (vI (Int32.ofInt n) :: st) h
  | .bipush n => Gf t ls (vI ((Int8.ofInt n).toInt32) :: st) h
  | .sipush n => Gf t ls (vI ((Int16.ofInt n).toInt32) :: st) h
  | .lconst n => Gf t ls (vJ (Int64.ofNat n.val) :: st) h
  | .aconst_null => Gf t ls (vR none :: st) h
  | .ldc _ => match e.2.2.2.1 with
    | 0 => Gf t ls (vI (Int32.ofInt e.2.2.2.2.2.2) :: st) h
    | _ => Gf t ls (vR (some 2) :: st) h
  | .ldc_w _ => Gf t ls (vI (Int32.ofInt e.2.2.2.2.2.2) :: st) h
  | .ldc2_w _ => Gf t ls (vJ (Int64.ofInt e.2.2.2.2.2.2) :: st) h
  | .getstatic _ => Gf t ls (vR (some 1) :: st) h
  | .dup => match st with
    | .inl x :: st => Gf t ls (vI x :: vI x :: st) h
    | .inr (.inr x) :: st => Gf t ls (vR x :: vR x :: st) h
    | _ => none
  | .dup2 => match st with
    | .inl x :: .inr (.inr o) :: st => Gf t ls (vI x :: vR o :: vI x :: vR o :: st) h
    | _ => none
  | .pop => match st with
    | .inl _ :: st => Gf t ls st h
    | .inr (.inr _) :: st => Gf t ls st h
    | _ => none
  | .iadd => match st with
    | .inl y :: .inl x :: st => Gf t ls (vI (x + y) :: st) h
    | _ => none
  | .isub => match st with
    | .inl y :: .inl x :: st => Gf t ls (vI (x - y) :: st) h
    | _ => none
  | .imul => match st with
    | .inl y :: .inl x :: st => Gf t ls (vI (x * y) :: st) h
    | _ => none
  | .iand => match st with
    | .inl y :: .inl x :: st => Gf t ls (vI (x &&& y) :: st) h
    | _ => none
  | .ior => match st with
    | .inl y :: .inl x :: st => Gf t ls (vI (x ||| y) :: st) h
    | _ => none
  | .ixor => match st with
    | .inl y :: .inl x :: st => Gf t ls (vI (x ^^^ y) :: st) h
    | _ => none
  | .ishl => match st with
    | .inl y :: .inl x :: st => Gf t ls (vI (x <<< (y &&& 31)) :: st) h
    | _ => none
  | .ishr => match st with
    | .inl y :: .inl x :: st => Gf t ls (vI (x >>> (y &&& 31)) :: st) h
    | _ => none
  | .iushr => match st with
    | .inl y :: .inl x :: st => Gf t ls (vI ((x.toUInt32 >>> (y.toUInt32 &&& Int32.toUInt32 31)).toInt32) :: st) h
    | _ => none
  | .idiv => match st with
    | .inl y :: .inl x :: st => dvI x y fun z => Gf t ls (vI z :: st) h
    | _ => none
  | .irem => match st with
    | .inl y :: .inl x :: st => rmI x y fun z => Gf t ls (vI z :: st) h
    | _ => none
  | .ineg => match st with
    | .inl x :: st => Gf t ls (vI (-x) :: st) h
    | _ => none
  | .ladd => match st with
    | .inr (.inl y) :: .inr (.inl x) :: st => Gf t ls (vJ (x + y) :: st) h
    | _ => none
  | .lsub => match st with
    | .inr (.inl y) :: .inr (.inl x) :: st => Gf t ls (vJ (x - y) :: st) h
    | _ => none
  | .lmul => match st with
    | .inr (.inl y) :: .inr (.inl x) :: st => Gf t ls (vJ (x * y) :: st) h
    | _ => none
  | .land => match st with
    | .inr (.inl y) :: .inr (.inl x) :: st => Gf t ls (vJ (x &&& y) :: st) h
    | _ => none
  | .lor => match st with
    | .inr (.inl y) :: .inr (.inl x) :: st => Gf t ls (vJ (x ||| y) :: st) h
    | _ => none
  | .lshl => match st with
    | .inl y :: .inr (.inl x) :: st => Gf t ls (vJ (x <<< (y.toInt64 &&& 63)) :: st) h
    | _ => none
  | .ldiv => match st with
    | .inr (.inl y) :: .inr (.inl x) :: st => dvJ x y fun z => Gf t ls (vJ z :: st) h
    | _ => none
  | .lrem => match st with
    | .inr (.inl y) :: .inr (.inl x) :: st => rmJ x y fun z => Gf t ls (vJ z :: st) h
    | _ => none
  | .lcmp => match st with
    | .inr (.inl y) :: .inr (.inl x) :: st => Gf t ls (vI (lg_cmp x y) :: st) h
    | _ => none
  | .i2l => match st with
    | .inl x :: st => Gf t ls (vJ x.toInt64 :: st) h
    | _ => none
  | .l2i => match st with
    | .inr (.inl x) :: st => Gf t ls (vI x.toInt32 :: st) h
    | _ => none
  | .i2b => match st with
    | .inl x :: st => Gf t ls (vI x.toInt8.toInt32 :: st) h
    | _ => none
  | .goto off => Gf (am_drop cd (am_tgt e.1 off)) ls st h
  | .ifCond c off => match st with
    | .inl x :: st => match c with
      | .eq => if x = 0 then Gf (am_drop cd (am_tgt e.1 off)) ls st h else Gf t ls st h
      | .ne => if x = 0 then Gf t ls st h else Gf (am_drop cd (am_tgt e.1 off)) ls st h
      | .lt => if x < 0 then Gf (am_drop cd (am_tgt e.1 off)) ls st h else Gf t ls st h
      | .ge => if x < 0 then Gf t ls st h else Gf (am_drop cd (am_tgt e.1 off)) ls st h
      | .le => if x ≤ 0 then Gf (am_drop cd (am_tgt e.1 off)) ls st h else Gf t ls st h
      | .gt => if x ≤ 0 then Gf t ls st h else Gf (am_drop cd (am_tgt e.1 off)) ls st h
    | _ => none
  | .if_icmp c off => match st with
    | .inl y :: .inl x :: st => match c with
      | .eq => if x = y then Gf (am_drop cd (am_tgt e.1 off)) ls st h else Gf t ls st h
      | .ne => if x = y then Gf t ls st h else Gf (am_drop cd (am_tgt e.1 off)) ls st h
      | .lt => if x < y then Gf (am_drop cd (am_tgt e.1 off)) ls st h else Gf t ls st h
      | .ge => if x < y then Gf t ls st h else Gf (am_drop cd (am_tgt e.1 off)) ls st h
      | .le => if x ≤ y then Gf (am_drop cd (am_tgt e.1 off)) ls st h else Gf t ls st h
      | .gt => if x ≤ y then Gf t ls st h else Gf (am_drop cd (am_tgt e.1 off)) ls st h
    | _ => none
  | .ifnull off => match st with
    | .inr (.inr o) :: st => match o with
      | none => Gf (am_drop cd (am_tgt e.1 off)) ls st h
      | some _ => Gf t ls st h
    | _ => none
  | .ifnonnull off => match st with
    | .inr (.inr o) :: st => match o with
      | none => Gf t ls st h
      | some _ => Gf (am_drop cd (am_tgt e.1 off)) ls st h
    | _ => none
  | .tableswitch dflt lo _ offs => match st with
    | .inl x :: st => am_tab x (fun off => Gf (am_drop cd (am_tgt e.1 off)) ls st h) dflt lo offs.toList
    | _ => none
  | .getfield _ => match st with
    | .inr (.inr o) :: st => match e.2.2.2.2.2.1 with
      | 1 => oB o fun a => gtI h a (10 + e.2.2.2.1) e.2.2.2.2.1 fun x => Gf t ls (vI x :: st) h
      | 3 => oB o fun a => gtR h a (10 + e.2.2.2.1) e.2.2.2.2.1 fun x => Gf t ls (vR x :: st) h
      | _ => none
    | _ => none
  | .putfield _ => match st with
    | .inl x :: .inr (.inr o) :: st => match e.2.2.2.2.2.1 with
      | 1 => oB o fun a => ptI h a (10 + e.2.2.2.1) e.2.2.2.2.1 x fun h => Gf t ls st h
      | 2 => oB o fun a => ptZ h a (10 + e.2.2.2.1) e.2.2.2.2.1 x fun h => Gf t ls st h
      | _ => none
    | .inr (.inr x) :: .inr (.inr o) :: st => match e.2.2.2.2.2.1 with
      | 3 => oB o fun a => ptR h a (10 + e.2.2.2.1) e.2.2.2.2.1 x fun h => Gf t ls st h
      | _ => none
    | _ => none
  | .iaload => match st with
    | .inl i :: .inr (.inr o) :: st => oB o fun a => alI h a i fun v => Gf t ls (vI v :: st) h
    | _ => none
  | .baload => match st with
    | .inl i :: .inr (.inr o) :: st => oB o fun a => alB h a i fun v => Gf t ls (vI v :: st) h
    | _ => none
  | .laload => match st with
    | .inl i :: .inr (.inr o) :: st => oB o fun a => alJ h a i fun v => Gf t ls (vJ v :: st) h
    | _ => none
  | .aaload => match st with
    | .inl i :: .inr (.inr o) :: st => oB o fun a => alR h a i fun v => Gf t ls (vR v :: st) h
    | _ => none
  | .iastore => match st with
    | .inl x :: .inl i :: .inr (.inr o) :: st => oB o fun a => asI h a i x fun h => Gf t ls st h
    | _ => none
  | .bastore => match st with
    | .inl x :: .inl i :: .inr (.inr o) :: st => oB o fun a => asB h a i x fun h => Gf t ls st h
    | _ => none
  | .lastore => match st with
    | .inr (.inl x) :: .inl i :: .inr (.inr o) :: st => oB o fun a => asJ h a i x fun h => Gf t ls st h
    | _ => none
  | .aastore => match st with
    | .inr (.inr x) :: .inl i :: .inr (.inr o) :: st => oB o fun a => asR h a i x fun h => Gf t ls st h
    | _ => none
  | .arraylength => match st with
    | .inr (.inr o) :: st => oB o fun a => alen h a fun x => Gf t ls (vI x :: st) h
    | _ => none
  | .new _ => nwO h e.2.2.2.1 fun a h => Gf t ls (vR (some a) :: st) h
  | .newarray _ => match st with
    | .inl n :: st => nwA h e.2.2.2.1 n fun a h => Gf t ls (vR (some a) :: st) h
    | _ => none
  | .anewarray _ => match st with
    | .inl n :: st => nwA h e.2.2.2.1 n fun a h => Gf t ls (vR (some a) :: st) h
    | _ => none
  | .invokevirtual _ => match e.2.2.2.1 with
    | 996 => match st with
      | .inr (.inr o) :: st => cond (am_low st) (wB o (Gf t ls (vI 135 :: st) h)) none
      | _ => none
    | 995 => match st with
      | .inl i :: .inr (.inr o) :: st => cond (am_low st) (wB o (chB i fun x => Gf t ls (vI x :: st) h)) none
      | _ => none
    | _ => match am_pop e.2.2.2.2.1 st [] with
      | some (.inr (.inr o) :: as, st) => cond (am_low st) (oB o fun a => ck h a (10 + e.2.2.2.2.2.2.toNat) (am_call e.2.2.2.2.2.1 (call e.2.2.2.1 (vR (some a) :: as) h) t ls st Gf)) none
      | _ => none
  | .invokestatic _ => match e.2.2.2.1 with
    | 999 => match st with
      | .inl n :: .inl j :: .inr (.inr o2) :: .inl i :: .inr (.inr o) :: st => cond (am_low st) (acp h o i o2 j n fun h => Gf t ls st h) none
      | _ => none
    | 998 => match st with
      | .inl y :: .inl x :: st => cond (am_low st) (Gf t ls (vI (jmax x y) :: st) h) none
      | _ => none
    | 997 => match st with
      | .inl y :: .inl x :: st => cond (am_low st) (Gf t ls (vI (jmin x y) :: st) h) none
      | _ => none
    | _ => match am_pop e.2.2.2.2.1 st [] with
      | some (as, st) => cond (am_low st) (am_call e.2.2.2.2.2.1 (call e.2.2.2.1 as h) t ls st Gf) none
      | _ => none
  | .invokespecial _ => match e.2.2.2.1 with
    | 999 => match st with
      | .inr (.inr o) :: st => cond (am_low st) (oB o fun _ => Gf t ls st h) none
      | _ => none
    | _ => match am_pop e.2.2.2.2.1 st [] with
      | some (.inr (.inr o) :: as, st) => cond (am_low st) (oB o fun a => am_call 0 (call e.2.2.2.1 (vR (some a) :: as) h) t ls st Gf) none
      | _ => none
  | .ireturn => match st with
    | [.inl x] => match rt with
      | 1 => some (rI x, h)
      | 4 => rZ x h
      | _ => none
    | _ => none
  | .lreturn => match st with
    | [.inr (.inl x)] => match rt with
      | 2 => some (rJ x, h)
      | _ => none
    | _ => none
  | .areturn => match st with
    | [.inr (.inr x)] => match rt with
      | 3 => some (rR x, h)
      | _ => none
    | _ => none
  | .return_ => match st with
    | [] => match rt with
      | 0 => some (r0, h)
      | _ => none
    | _ => none
  | _ => none
/-- what dies at a cut is forgotten -/
def am_kill : List Nat → AL → AL
  | [], ls => ls
  | i :: t, ls => am_kill t (ls.set i none)
def am_go (cut : List (Nat × List Nat)) (K : AK) (F : AG) : AG := fun rest ls st h =>
  match rest with
  | [] => none
  | q :: _ => match cut.find? (fun c => Nat.beq c.1 q.1) with
    | some c => K q.1 (am_kill c.2 ls) st h
    | none => F rest ls st h
def am_seg (call : Nat → List AV → AH → Option RR) (rt : Nat) (cd : AC) (cut : List (Nat × List Nat)) (K : AK) : Nat → AG
  | 0, _, _, _, _ => none
  | _ + 1, [], _, _, _ => none
  | n + 1, e :: t, ls, st, h => am_step call rt cd e t ls st h (am_go cut K (am_seg call rt cd cut K n))
