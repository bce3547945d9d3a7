/-! The small machine over whole numbers: ints and longs are numbers within their bounds (part 15: what it answers, the one over bits answers) -/
def wr (x : Int) : Int := (Int32.ofInt x).toInt
def wl (x : Int) : Int := (Int64.ofInt x).toInt
abbrev IV : Type := Sum Int (Sum Int (Option Nat))
abbrev iI (x : Int) : IV := Sum.inl x
abbrev iJ (x : Int) : IV := Sum.inr (Sum.inl x)
abbrev iR (o : Option Nat) : IV := Sum.inr (Sum.inr o)
abbrev IH : Type := (Nat × Nat) × (Nat → Nat) × (Nat → Nat) × (Nat → Nat → Int) × (Nat → Nat → Int) × (Nat → Nat → Option Nat)
def hN (h : IH) : Nat := h.1.1
def hS (h : IH) : Nat := h.1.2
def hT (h : IH) (a : Nat) : Nat := h.2.1 a
def hL (h : IH) (a : Nat) : Nat := h.2.2.1 a
def hI (h : IH) (a i : Nat) : Int := h.2.2.2.1 a i
def hJ (h : IH) (a i : Nat) : Int := h.2.2.2.2.1 a i
def hR (h : IH) (a i : Nat) : Option Nat := h.2.2.2.2.2 a i
/-- other ints, longs, references in the same cells -/
def sI (h : IH) (I : Nat → Nat → Int) : IH := (h.1, h.2.1, h.2.2.1, I, h.2.2.2.2.1, h.2.2.2.2.2)
def sJ (h : IH) (J : Nat → Nat → Int) : IH := (h.1, h.2.1, h.2.2.1, h.2.2.2.1, J, h.2.2.2.2.2)
def sR (h : IH) (R : Nat → Nat → Option Nat) : IH := (h.1, h.2.1, h.2.2.1, h.2.2.2.1, h.2.2.2.2.1, R)
def up (I : Nat → Nat → Int) (a i : Nat) (x : Int) : Nat → Nat → Int := fun b j => if b = a ∧ j = i then x else I b j
def upR (I : Nat → Nat → Option Nat) (a i : Nat) (x : Option Nat) : Nat → Nat → Option Nat := fun b j => if b = a ∧ j = i then x else I b j
def cpy (I : Nat → Nat → Int) (a i b j n : Nat) : Nat → Nat → Int := fun q k => if q = b ∧ j ≤ k ∧ k < j + n then I a (i + (k - j)) else I q k
/-- a new cell -/
def mk (h : IH) (t n : Nat) : IH := ((h.1.1 + 1, h.1.2 + n), (fun b => if b = h.1.1 then t else h.2.1 b), (fun b => if b = h.1.1 then n else h.2.2.1 b), (fun b j => if b = h.1.1 then 0 else h.2.2.2.1 b j), (fun b j => if b = h.1.1 then 0 else h.2.2.2.2.1 b j), (fun b j => if b = h.1.1 then none else h.2.2.2.2.2 b j))
abbrev IRV : Type := Int × Int × Option Nat
abbrev IR : Type := IRV × IH
abbrev oI (x : Int) : IRV := (x, 0, none)
abbrev oJ (x : Int) : IRV := (0, x, none)
abbrev oR (o : Option Nat) : IRV := (0, 0, o)
abbrev o0 : IRV := (0, 0, none)
def xB (o : Option Nat) (k : Nat → Option IR) : Option IR := match o with
  | none => none
  | some a => k a
def xW (o : Option Nat) (k : Option IR) : Option IR := if o = some 2 then k else none
def wdL : List Int := am_wt.toList.map fun c => (c.toNat : Int)
def xch (i : Int) (k : Int → Option IR) : Option IR := if 0 ≤ i ∧ i < 135 then k (wdL.getD i.toNat 0) else none
def xck (h : IH) (a t : Nat) (k : Option IR) : Option IR := if hT h a = t then k else none
def xgI (h : IH) (a t i : Nat) (k : Int → Option IR) : Option IR := if hT h a = t then k (hI h a i) else none
def xgR (h : IH) (a t i : Nat) (k : Option Nat → Option IR) : Option IR := if hT h a = t then k (hR h a i) else none
def xpI (h : IH) (a t i : Nat) (x : Int) (k : IH → Option IR) : Option IR := if hT h a = t ∧ 3 ≤ a then k (sI h (up (hI h) a i x)) else none
def xpZ (h : IH) (a t i : Nat) (x : Int) (k : IH → Option IR) : Option IR := if (hT h a = t ∧ 3 ≤ a) ∧ (x = 0 ∨ x = 1) then k (sI h (up (hI h) a i x)) else none
def xpR (h : IH) (a t i : Nat) (x : Option Nat) (k : IH → Option IR) : Option IR := if hT h a = t ∧ 3 ≤ a then k (sR h (upR (hR h) a i x)) else none
def xaI (h : IH) (a : Nat) (i : Int) (k : Int → Option IR) : Option IR := if hT h a = 0 ∧ (0 ≤ i ∧ i < (hL h a : Int)) then k (hI h a i.toNat) else none
def xaB (h : IH) (a : Nat) (i : Int) (k : Int → Option IR) : Option IR := if (hT h a = 2 ∨ hT h a = 3) ∧ (0 ≤ i ∧ i < (hL h a : Int)) then k (hI h a i.toNat) else none
def xaJ (h : IH) (a : Nat) (i : Int) (k : Int → Option IR) : Option IR := if hT h a = 1 ∧ (0 ≤ i ∧ i < (hL h a : Int)) then k (hJ h a i.toNat) else none
def xaR (h : IH) (a : Nat) (i : Int) (k : Option Nat → Option IR) : Option IR := if (hT h a = 4 ∨ hT h a = 5) ∧ (0 ≤ i ∧ i < (hL h a : Int)) then k (hR h a i.toNat) else none
def xsI (h : IH) (a : Nat) (i x : Int) (k : IH → Option IR) : Option IR := if (hT h a = 0 ∧ 3 ≤ a) ∧ (0 ≤ i ∧ i < (hL h a : Int)) then k (sI h (up (hI h) a i.toNat x)) else none
/-- what a byte, a boolean keeps of an int -/
def n8 (x : Int) : Int := (vp_nar .byte (Int32.ofInt x)).toInt
def n1 (x : Int) : Int := (vp_nar .boolean (Int32.ofInt x)).toInt
def xsB (h : IH) (a : Nat) (i x : Int) (k : IH → Option IR) : Option IR :=
  if (hT h a = 2 ∧ 3 ≤ a) ∧ (0 ≤ i ∧ i < (hL h a : Int)) then k (sI h (up (hI h) a i.toNat (n8 x)))
  else if (hT h a = 3 ∧ 3 ≤ a) ∧ (0 ≤ i ∧ i < (hL h a : Int)) then k (sI h (up (hI h) a i.toNat (n1 x))) else none
def xsJ (h : IH) (a : Nat) (i : Int) (x : Int) (k : IH → Option IR) : Option IR := if (hT h a = 1 ∧ 3 ≤ a) ∧ (0 ≤ i ∧ i < (hL h a : Int)) then k (sJ h (up (hJ h) a i.toNat x)) else none
def xsR (h : IH) (a : Nat) (i : Int) (o : Option Nat) (k : IH → Option IR) : Option IR := match o with
  | none => if ((hT h a = 4 ∨ hT h a = 5) ∧ 3 ≤ a) ∧ (0 ≤ i ∧ i < (hL h a : Int)) then k (sR h (upR (hR h) a i.toNat none)) else none
  | some v => if (((hT h a = 4 ∧ hT h v = 19) ∨ (hT h a = 5 ∧ hT h v = 11)) ∧ 3 ≤ a ∧ 3 ≤ v) ∧ (0 ≤ i ∧ i < (hL h a : Int)) then k (sR h (upR (hR h) a i.toNat (some v))) else none
def xle (h : IH) (a : Nat) (k : Int → Option IR) : Option IR := if hT h a < 6 then k (wr (hL h a : Int)) else none
def xnO (h : IH) (ci : Nat) (k : Nat → IH → Option IR) : Option IR := k (hN h) (mk h (10 + ci) (am_nf ci))
def xnA (h : IH) (t : Nat) (n : Int) (k : Nat → IH → Option IR) : Option IR := if 0 ≤ n ∧ n ≤ 1000000 then k (hN h) (mk h t n.toNat) else none
def xdI (x y : Int) (k : Int → Option IR) : Option IR := if y = 0 then none else k (wr (Int.tdiv x y))
def xmI (x y : Int) (k : Int → Option IR) : Option IR := if y = 0 then none else k (wr (Int.tmod x y))
def xdJ (x y : Int) (k : Int → Option IR) : Option IR := if y = 0 then none else k (wl (Int.tdiv x y))
def xmJ (x y : Int) (k : Int → Option IR) : Option IR := if y = 0 then none else k (wl (Int.tmod x y))
def xcp (h : IH) (o : Option Nat) (i : Int) (o2 : Option Nat) (j n : Int) (k : IH → Option IR) : Option IR :=
  xB o fun a => xB o2 fun b => if (hT h a = 0 ∧ hT h b = 0 ∧ a ≠ b ∧ 3 ≤ a ∧ 3 ≤ b) ∧ 0 ≤ i ∧ 0 ≤ j ∧ 0 ≤ n ∧ i + n ≤ (hL h a : Int) ∧ j + n ≤ (hL h b : Int)
    then k (sI h (cpy (hI h) a i.toNat b j.toNat n.toNat)) else none
def kI (o : Option IR) (k : Int → IH → Option IR) : Option IR := match o with
  | none => none
  | some q => k q.1.1 q.2
def kJ (o : Option IR) (k : Int → IH → Option IR) : Option IR := match o with
  | none => none
  | some q => k q.1.2.1 q.2
def kR (o : Option IR) (k : Option Nat → IH → Option IR) : Option IR := match o with
  | none => none
  | some q => k q.1.2.2 q.2
def kV (o : Option IR) (k : IH → Option IR) : Option IR := match o with
  | none => none
  | some q => k q.2
def imax (x y : Int) : Int := if x < y then y else x
def imin (x y : Int) : Int := if y < x then y else x
def xZ (x : Int) (h : IH) : Option IR := if x = 0 ∨ x = 1 then some (oI x, h) else none
def iand (x y : Int) : Int := (Int32.ofInt x &&& Int32.ofInt y).toInt
def ior (x y : Int) : Int := (Int32.ofInt x ||| Int32.ofInt y).toInt
def ixor (x y : Int) : Int := (Int32.ofInt x ^^^ Int32.ofInt y).toInt
def ishl (x y : Int) : Int := (Int32.ofInt x <<< (Int32.ofInt y &&& 31)).toInt
def ishr (x y : Int) : Int := (Int32.ofInt x >>> (Int32.ofInt y &&& 31)).toInt
def iushr (x y : Int) : Int := ((Int32.toUInt32 (Int32.ofInt x) >>> (Int32.toUInt32 (Int32.ofInt y) &&& Int32.toUInt32 31)).toInt32).toInt
def land (x y : Int) : Int := (Int64.ofInt x &&& Int64.ofInt y).toInt
def lor (x y : Int) : Int := (Int64.ofInt x ||| Int64.ofInt y).toInt
def lshl (x y : Int) : Int := (Int64.ofInt x <<< (Int32.toInt64 (Int32.ofInt y) &&& 63)).toInt
def lcmp (x y : Int) : Int := if x < y then -1 else if x = y then 0 else 1
def by8 (x : Int) : Int := (Int32.ofInt x).toInt8.toInt32.toInt
abbrev IL : Type := List (Option IV)
abbrev IK : Type := Nat → IL → List IV → IH → Option IR
abbrev IG : Type := AC → IL → List IV → IH → Option IR
def im_ok1 (ls : IL) (i : Nat) : Bool := Nat.blt i ls.length && match i with
  | 0 => true
  | j + 1 => match ls[j]? with
    | some (some (.inr (.inl _))) => false
    | _ => true
def im_pop : Nat → List IV → List IV → Option (List IV × List IV)
  | 0, st, acc => some (acc, st)
  | _ + 1, [], _ => none
  | n + 1, v :: st, acc => im_pop n st (v :: acc)
def im_tab (x : Int) (F : Int → Option IR) (dflt : Int) : Int → List Int → Option IR
  | _, [] => F dflt
  | i, o :: t => if x = i then F o else im_tab x F dflt (i + 1) t
def im_low (st : List IV) : Bool := Nat.ble st.length 4
def im_call (rt : Nat) (o : Option IR) (t : AC) (ls : IL) (st : List IV) (Gf : IG) : Option IR := match rt with
  | 0 => kV o fun h => Gf t ls st h
  | 1 => kI o fun x h => Gf t ls (iI x :: st) h
  | 2 => kJ o fun x h => Gf t ls (iJ x :: st) h
  | _ => kR o fun x h => Gf t ls (iR x :: st) h
/-- one step; call: what callees answer; rt: 0 void, 1 int, 2 long, 3 reference, 4 boolean -/
def im_step (call : Nat → List IV → IH → Option IR) (rt : Nat) (cd : AC) (e : AE) (t : AC) (ls : IL) (st : List IV) (h : IH) (Gf : IG) : Option IR :=
  match e.2.1 with
  | .iload i => match ls[i]? with
    | some (some (.inl x)) => Gf t ls (iI x :: st) h
    | _ => none
  | .iload_n i => match ls[i.val]? with
    | some (some (.inl x)) => Gf t ls (iI x :: st) h
    | _ => none
  | .lload i => match ls[i]? with
    | some (some (.inr (.inl x))) => Gf t ls (iJ x :: st) h
    | _ => none
  | .lload_n i => match ls[i.val]? with
    | some (some (.inr (.inl x))) => Gf t ls (iJ x :: st) h
    | _ => none
  | .aload i => match ls[i]? with
    | some (some (.inr (.inr x))) => Gf t ls (iR x :: st) h
    | _ => none
  | .aload_n i => match ls[i.val]? with
    | some (some (.inr (.inr x))) => Gf t ls (iR x :: st) h
    | _ => none
  | .istore i => match st with
    | .inl x :: st => cond (im_ok1 ls i) (Gf t (ls.set i (some (iI x))) st h) none
    | _ => none
  | .istore_n i => match st with
    | .inl x :: st => cond (im_ok1 ls i.val) (Gf t (ls.set i.val (some (iI x))) st h) none
    | _ => none
  | .lstore i => match st with
    | .inr (.inl x) :: st => cond (im_ok1 ls i && Nat.blt (i + 1) ls.length) (Gf t ((ls.set i (some (iJ x))).set (i + 1) none) st h) none
    | _ => none
  | .lstore_n i => match st with
    | .inr (.inl x) :: st => cond (im_ok1 ls i.val && Nat.blt (i.val + 1) ls.length) (Gf t ((ls.set i.val (some (iJ x))).set (i.val + 1) none) st h) none
    | _ => none
  | .astore i => match st with
    | .inr (.inr x) :: st => cond (im_ok1 ls i) (Gf t (ls.set i (some (iR x))) st h) none
    | _ => none
  | .astore_n i => match st with
    | .inr (.inr x) :: st => cond (im_ok1 ls i.val) (Gf t (ls.set i.val (some (iR x))) st h) none
    | _ => none
  | .iinc i n => match ls[i]? with
    | some (some (.inl x)) => cond (im_ok1 ls i) (Gf t (ls.set i (some (iI (wr (x + n))))) st h) none
    | _ => none
  | .iconst n => Gf t ls (iI n :: st) h
  | .bipush n => Gf t ls (iI n :: st) h
  | .sipush n => Gf t ls (iI n :: st) h
  | .lconst n => Gf t ls (iJ (n.val : Int) :: st) h
  | .aconst_null => Gf t ls (iR none :: st) h
  | .ldc _ => match e.2.2.2.1 with
    | 0 => Gf t ls (iI e.2.2.2.2.2.2 :: st) h
    | _ => Gf t ls (iR (some 2) :: st) h
  | .ldc_w _ => Gf t ls (iI e.2.2.2.2.2.2 :: st) h
  | .ldc2_w _ => Gf t ls (iJ e.2.2.2.2.2.2 :: st) h
  | .getstatic _ => Gf t ls (iR (some 1) :: st) h
  | .dup => match st with
    | .inl x :: st => Gf t ls (iI x :: iI x :: st) h
    | .inr (.inr x) :: st => Gf t ls (iR x :: iR x :: st) h
    | _ => none
  | .dup2 => match st with
    | .inl x :: .inr (.inr o) :: st => Gf t ls (iI x :: iR o :: iI x :: iR o :: st) h
    | _ => none
  | .pop => match st with
    | .inl _ :: st => Gf t ls st h
    | .inr (.inr _) :: st => Gf t ls st h
    | _ => none
  | .iadd => match st with
    | .inl y :: .inl x :: st => Gf t ls (iI (wr (x + y)) :: st) h
    | _ => none
  | .isub => match st with
    | .inl y :: .inl x :: st => Gf t ls (iI (wr (x - y)) :: st) h
    | _ => none
  | .imul => match st with
    | .inl y :: .inl x :: st => Gf t ls (iI (wr (x * y)) :: st) h
    | _ => none
  | .iand => match st with
    | .inl y :: .inl x :: st => Gf t ls (iI (iand x y) :: st) h
    | _ => none
  | .ior => match st with
    | .inl y :: .inl x :: st => Gf t ls (iI (ior x y) :: st) h
    | _ => none
  | .ixor => match st with
    | .inl y :: .inl x :: st => Gf t ls (iI (ixor x y) :: st) h
    | _ => none
  | .ishl => match st with
    | .inl y :: .inl x :: st => Gf t ls (iI (ishl x y) :: st) h
    | _ => none
  | .ishr => match st with
    | .inl y :: .inl x :: st => Gf t ls (iI (ishr x y) :: st) h
    | _ => none
  | .iushr => match st with
    | .inl y :: .inl x :: st => Gf t ls (iI (iushr x y) :: st) h
    | _ => none
  | .idiv => match st with
    | .inl y :: .inl x :: st => xdI x y fun z => Gf t ls (iI z :: st) h
    | _ => none
  | .irem => match st with
    | .inl y :: .inl x :: st => xmI x y fun z => Gf t ls (iI z :: st) h
    | _ => none
  | .ineg => match st with
    | .inl x :: st => Gf t ls (iI (wr (-x)) :: st) h
    | _ => none
  | .ladd => match st with
    | .inr (.inl y) :: .inr (.inl x) :: st => Gf t ls (iJ (wl (x + y)) :: st) h
    | _ => none
  | .lsub => match st with
    | .inr (.inl y) :: .inr (.inl x) :: st => Gf t ls (iJ (wl (x - y)) :: st) h
    | _ => none
  | .lmul => match st with
    | .inr (.inl y) :: .inr (.inl x) :: st => Gf t ls (iJ (wl (x * y)) :: st) h
    | _ => none
  | .land => match st with
    | .inr (.inl y) :: .inr (.inl x) :: st => Gf t ls (iJ (land x y) :: st) h
    | _ => none
  | .lor => match st with
    | .inr (.inl y) :: .inr (.inl x) :: st => Gf t ls (iJ (lor x y) :: st) h
    | _ => none
  | .lshl => match st with
    | .inl y :: .inr (.inl x) :: st => Gf t ls (iJ (lshl x y) :: st) h
    | _ => none
  | .ldiv => match st with
    | .inr (.inl y) :: .inr (.inl x) :: st => xdJ x y fun z => Gf t ls (iJ z :: st) h
    | _ => none
  | .lrem => match st with
    | .inr (.inl y) :: .inr (.inl x) :: st => xmJ x y fun z => Gf t ls (iJ z :: st) h
    | _ => none
  | .lcmp => match st with
    | .inr (.inl y) :: .inr (.inl x) :: st => Gf t ls (iI (lcmp x y) :: st) h
    | _ => none
  | .i2l => match st with
    | .inl x :: st => Gf t ls (iJ x :: st) h
    | _ => none
  | .l2i => match st with
    | .inr (.inl x) :: st => Gf t ls (iI (wr x) :: st) h
    | _ => none
  | .i2b => match st with
    | .inl x :: st => Gf t ls (iI (by8 x) :: st) h
    | _ => none
  | .goto off => Gf (am_drop cd (am_tgt e.1 off)) ls st h
  | .ifCond c off => match st with
    | .inl x :: st => match c with
      | .eq => if x = 0 then Gf (am_drop cd (am_tgt e.1 off)) ls st h else Gf t ls st h
      | .ne => if x = 0 then Gf t ls st h else Gf (am_drop cd (am_tgt e.1 off)) ls st h
      | .lt => if x < 0 then Gf (am_drop cd (am_tgt e.1 off)) ls st h else Gf t ls st h
      | .ge => if x < 0 then Gf t ls st h else Gf (am_drop cd (am_tgt e.1 off)) ls st h
      | .le => if x ≤ 0 then Gf (am_drop cd (am_tgt e.1 off)) ls st h else Gf t ls st h
      | .gt => if x ≤ 0 then Gf t ls st h else Gf (am_drop cd (am_tgt e.1 off)) ls st h
    | _ => none
  | .if_icmp c off => match st with
    | .inl y :: .inl x :: st => match c with
      | .eq => if x = y then Gf (am_drop cd (am_tgt e.1 off)) ls st h else Gf t ls st h
      | .ne => if x = y then Gf t ls st h else Gf (am_drop cd (am_tgt e.1 off)) ls st h
      | .lt => if x < y then Gf (am_drop cd (am_tgt e.1 off)) ls st h else Gf t ls st h
      | .ge => if x < y then Gf t ls st h else Gf (am_drop cd (am_tgt e.1 off)) ls st h
      | .le => if x ≤ y then Gf (am_drop cd (am_tgt e.1 off)) ls st h else Gf t ls st h
      | .gt => if x ≤ y then Gf t ls st h else Gf (am_drop cd (am_tgt e.1 off)) ls st h
    | _ => none
  | .ifnull off => match st with
    | .inr (.inr o) :: st => match o with
      | none => Gf (am_drop cd (am_tgt e.1 off)) ls st h
      | some _ => Gf t ls st h
    | _ => none
  | .ifnonnull off => match st with
    | .inr (.inr o) :: st => match o with
      | none => Gf t ls st h
      | some _ => Gf (am_drop cd (am_tgt e.1 off)) ls st h
    | _ => none
  | .tableswitch dflt lo _ offs => match st with
    | .inl x :: st => im_tab x (fun off => Gf (am_drop cd (am_tgt e.1 off)) ls st h) dflt lo offs.toList
    | _ => none
  | .getfield _ => match st with
    | .inr (.inr o) :: st => match e.2.2.2.2.2.1 with
      | 1 => xB o fun a => xgI h a (10 + e.2.2.2.1) e.2.2.2.2.1 fun x => Gf t ls (iI x :: st) h
      | 3 => xB o fun a => xgR h a (10 + e.2.2.2.1) e.2.2.2.2.1 fun x => Gf t ls (iR x :: st) h
      | _ => none
    | _ => none
  | .putfield _ => match st with
    | .inl x :: .inr (.inr o) :: st => match e.2.2.2.2.2.1 with
      | 1 => xB o fun a => xpI h a (10 + e.2.2.2.1) e.2.2.2.2.1 x fun h => Gf t ls st h
      | 2 => xB o fun a => xpZ h a (10 + e.2.2.2.1) e.2.2.2.2.1 x fun h => Gf t ls st h
      | _ => none
    | .inr (.inr x) :: .inr (.inr o) :: st => match e.2.2.2.2.2.1 with
      | 3 => xB o fun a => xpR h a (10 + e.2.2.2.1) e.2.2.2.2.1 x fun h => Gf t ls st h
      | _ => none
    | _ => none
  | .iaload => match st with
    | .inl i :: .inr (.inr o) :: st => xB o fun a => xaI h a i fun v => Gf t ls (iI v :: st) h
    | _ => none
  | .baload => match st with
    | .inl i :: .inr (.inr o) :: st => xB o fun a => xaB h a i fun v => Gf t ls (iI v :: st) h
    | _ => none
  | .laload => match st with
    | .inl i :: .inr (.inr o) :: st => xB o fun a => xaJ h a i fun v => Gf t ls (iJ v :: st) h
    | _ => none
  | .aaload => match st with
    | .inl i :: .inr (.inr o) :: st => xB o fun a => xaR h a i fun v => Gf t ls (iR v :: st) h
    | _ => none
  | .iastore => match st with
    | .inl x :: .inl i :: .inr (.inr o) :: st => xB o fun a => xsI h a i x fun h => Gf t ls st h
    | _ => none
  | .bastore => match st with
    | .inl x :: .inl i :: .inr (.inr o) :: st => xB o fun a => xsB h a i x fun h => Gf t ls st h
    | _ => none
  | .lastore => match st with
    | .inr (.inl x) :: .inl i :: .inr (.inr o) :: st => xB o fun a => xsJ h a i x fun h => Gf t ls st h
    | _ => none
  | .aastore => match st with
    | .inr (.inr x) :: .inl i :: .inr (.inr o) :: st => xB o fun a => xsR h a i x fun h => Gf t ls st h
    | _ => none
  | .arraylength => match st with
    | .inr (.inr o) :: st => xB o fun a => xle h a fun x => Gf t ls (iI x :: st) h
    | _ => none
  | .new _ => xnO h e.2.2.2.1 fun a h => Gf t ls (iR (some a) :: st) h
  | .newarray _ => match st with
    | .inl n :: st => xnA h e.2.2.2.1 n fun a h => Gf t ls (iR (some a) :: st) h
    | _ => none
  | .anewarray _ => match st with
    | .inl n :: st => xnA h e.2.2.2.1 n fun a h => Gf t ls (iR (some a) :: st) h
    | _ => none
  | .invokevirtual _ => match e.2.2.2.1 with
    | 996 => match st with
      | .inr (.inr o) :: st => cond (im_low st) (xW o (Gf t ls (iI 135 :: st) h)) none
      | _ => none
    | 995 => match st with
      | .inl i :: .inr (.inr o) :: st => cond (im_low st) (xW o (xch i fun x => Gf t ls (iI x :: st) h)) none
      | _ => none
    | _ => match im_pop e.2.2.2.2.1 st [] with
      | some (.inr (.inr o) :: as, st) => cond (im_low st) (xB o fun a => xck h a (10 + e.2.2.2.2.2.2.toNat) (im_call e.2.2.2.2.2.1 (call e.2.2.2.1 (iR (some a) :: as) h) t ls st Gf)) none
      | _ => none
  | .invokestatic _ => match e.2.2.2.1 with
    | 999 => match st with
      | .inl n :: .inl j :: .inr (.inr o2) :: .inl i :: .inr (.inr o) :: st => cond (im_low st) (xcp h o i o2 j n fun h => Gf t ls st h) none
      | _ => none
    | 998 => match st with
      | .inl y :: .inl x :: st => cond (im_low st) (Gf t ls (iI (imax x y) :: st) h) none
      | _ => none
    | 997 => match st with
      | .inl y :: .inl x :: st => cond (im_low st) (Gf t ls (iI (imin x y) :: st) h) none
      | _ => none
    | _ => match im_pop e.2.2.2.2.1 st [] with
      | some (as, st) => cond (im_low st) (im_call e.2.2.2.2.2.1 (call e.2.2.2.1 as h) t ls st Gf) none
      | _ => none
  | .invokespecial _ => match e.2.2.2.1 with
    | 999 => match st with
      | .inr (.inr o) :: st => cond (im_low st) (xB o fun _ => Gf t ls st h) none
      | _ => none
    | _ => match im_pop e.2.2.2.2.1 st [] with
      | some (.inr (.inr o) :: as, st) => cond (im_low st) (xB o fun a => im_call 0 (call e.2.2.2.1 (iR (some a) :: as) h) t ls st Gf) none
      | _ => none
  | .ireturn => match st with
    | [.inl x] => match rt with
      | 1 => some (oI x, h)
      | 4 => xZ x h
      | _ => none
    | _ => none
  | .lreturn => match st with
    | [.inr (.inl x)] => match rt with
      | 2 => some (oJ x, h)
      | _ => none
    | _ => none
  | .areturn => match st with
    | [.inr (.inr x)] => match rt with
      | 3 => some (oR x, h)
      | _ => none
    | _ => none
  | .return_ => match st with
    | [] => match rt with
      | 0 => some (o0, h)
      | _ => none
    | _ => none
  | _ => none
/-- what dies at a cut is forgotten -/
def im_kill : List Nat → IL → IL
  | [], ls => ls
  | i :: t, ls => im_kill t (ls.set i none)
def im_go (cut : List (Nat × List Nat)) (K : IK) (F : IG) : IG := fun rest ls st h =>
  match rest with
  | [] => none
  | q :: _ => match cut.find? (fun c => Nat.beq c.1 q.1) with
    | some c => K q.1 (im_kill c.2 ls) st h
    | none => F rest ls st h
def im_seg (call : Nat → List IV → IH → Option IR) (rt : Nat) (cd : AC) (cut : List (Nat × List Nat)) (K : IK) : Nat → IG
  | 0, _, _, _, _ => none
  | _ + 1, [], _, _, _ => none
  | n + 1, e :: t, ls, st, h => im_step call rt cd e t ls st h (im_go cut K (im_seg call rt cd cut K n))
def im_lp (call : Nat → List IV → IH → Option IR) (rt : Nat) (cd : AC) (cut : List (Nat × List Nat)) : Nat → IK
  | 0, _, _, _, _ => none
  | n + 1, pc, ls, st, h => im_seg call rt cd cut (im_lp call rt cd cut n) 2000 (am_drop cd pc) ls st h
def im_ent : List IV → IL
  | [] => []
  | .inl x :: t => some (iI x) :: im_ent t
  | .inr (.inl x) :: t => some (iJ x) :: none :: im_ent t
  | .inr (.inr x) :: t => some (iR x) :: im_ent t
def im_run (PG : Nat → AC) (CT : Nat → List (Nat × List Nat)) (RT ML : Nat → Nat) : Nat → Nat → List IV → IH → Option IR
  | 0, _, _, _ => none
  | d + 1, y, as, h => cond (Nat.ble (im_ent as).length (ML y)) (im_lp (im_run PG CT RT ML d) (RT y) (PG y) (CT y) 1000000 0 (im_ent as ++ List.replicate (ML y - (im_ent as).length) none) [] h) none
