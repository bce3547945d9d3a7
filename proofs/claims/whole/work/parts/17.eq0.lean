/-! Equations of methods 0 to 19 (by program, wip/whole/gen17.py) -/
-- TownSundays$Judge.init()V
theorem r_Ju_init (d : Nat) (l0 : Nat) (h : IH) : rn (d + 1) 0 [iR (some l0)] h = lp d 0 (999999 + 1) 0 [some (iR (some l0))] [] h := rn_lp rfl rfl
set_option maxRecDepth 20000 in
theorem e_Ju_init (d n : Nat) (l0 : Nat) (h : IH) :
 lp d 0 (n + 1) 0 [some (iR (some l0))] [] h =
 xnA h 0 9 fun a1 h2 =>
 xpR h2 l0 10 0 (some a1) fun h3 =>
 xnO h3 6 fun a4 h5 =>
 kV (rn d 72 [iR (some a4)] h5) fun h6 =>
 xpR h6 l0 10 1 (some a4) fun h7 =>
 some (o0, h7) := rfl
-- TownSundays$Judge.likingOf(LTownSundays$Land;LTownSundays$Text;II)I
theorem r_Ju_likingOf (d : Nat) (l0 : Nat) (l1 : Option Nat) (l2 : Option Nat) (l3 : Int) (l4 : Int) (h : IH) : rn (d + 1) 1 [iR (some l0), iR l1, iR l2, iI l3, iI l4] h = lp d 1 (999999 + 1) 0 [some (iR (some l0)), some (iR l1), some (iR l2), some (iI l3), some (iI l4), none] [] h := rn_lp rfl rfl
set_option maxRecDepth 20000 in
theorem e_Ju_likingOf (d n : Nat) (l0 : Nat) (l1 : Option Nat) (l2 : Option Nat) (l3 : Int) (l4 : Int) (h : IH) :
 lp d 1 (n + 1) 0 [some (iR (some l0)), some (iR l1), some (iR l2), some (iI l3), some (iI l4), none] [] h =
 (match l2 with
 | none => xB l1 fun a2 =>
 xgR h a2 11 3 fun x1 =>
 xB x1 fun a4 =>
 xaI h a4 l4 fun x3 =>
 some (oI x3, h)
 | some _ => xB l1 fun a6 =>
 xgR h a6 11 2 fun x5 =>
 xB x5 fun a8 =>
 xaI h a8 l4 fun x7 =>
 xck h l0 10 <|
 kV (rn d 5 [iR (some l0), iR l1, iI l3, iI l4, iI x7] h) fun h9 =>
 xck h9 l0 10 <|
 kI (rn d 6 [iR (some l0), iR l2, iI 4] h9) fun x11 h10 =>
 (if x11 = (-2147483648) then
 xB l1 fun a13 =>
 xgR h10 a13 11 3 fun x12 =>
 xB x12 fun a15 =>
 xaI h10 a15 l4 fun x14 =>
 some (oI x14, h10)
 else
 kI (rn d 7 [iI x11, iI 99] h10) fun x17 h16 =>
 some (oI x17, h16))) := rfl
-- TownSundays$Judge.alteredBells(LTownSundays$Land;I)I
theorem r_Ju_alteredBells (d : Nat) (l0 : Nat) (l1 : Option Nat) (l2 : Int) (h : IH) : rn (d + 1) 2 [iR (some l0), iR l1, iI l2] h = lp d 2 (999999 + 1) 0 [some (iR (some l0)), some (iR l1), some (iI l2), none, none] [] h := rn_lp rfl rfl
set_option maxRecDepth 20000 in
theorem e_Ju_alteredBells (d n : Nat) (l0 : Nat) (l1 : Option Nat) (l2 : Int) (h : IH) :
 lp d 2 (n + 1) 0 [some (iR (some l0)), some (iR l1), some (iI l2), none, none] [] h =
 xB l1 fun a1 =>
 xck h a1 11 <|
 kR (rn d 12 [iR (some a1)] h) fun x3 h2 =>
 (match x3 with
 | none => xB l1 fun a5 =>
 xgR h2 a5 11 3 fun x4 =>
 xB x4 fun a7 =>
 xaI h2 a7 l2 fun x6 =>
 some (oI x6, h2)
 | some _ => xB l1 fun a9 =>
 xgR h2 a9 11 2 fun x8 =>
 xB x8 fun a11 =>
 xaI h2 a11 l2 fun x10 =>
 xB l1 fun a13 =>
 xgR h2 a13 11 2 fun x12 =>
 xB x12 fun a15 =>
 xaI h2 a15 l2 fun x14 =>
 xck h2 l0 10 <|
 kV (rn d 5 [iR (some l0), iR l1, iI x10, iI l2, iI x14] h2) fun h16 =>
 xck h16 l0 10 <|
 kI (rn d 6 [iR (some l0), iR x3, iI 5] h16) fun x18 h17 =>
 (if x18 = (-2147483648) then
 xB l1 fun a20 =>
 xgR h17 a20 11 3 fun x19 =>
 xB x19 fun a22 =>
 xaI h17 a22 l2 fun x21 =>
 some (oI x21, h17)
 else
 kI (rn d 7 [iI x18, iI 9] h17) fun x24 h23 =>
 some (oI x24, h23))) := rfl
-- TownSundays$Judge.canSend(LTownSundays$Land;III)Z
theorem r_Ju_canSend (d : Nat) (l0 : Nat) (l1 : Option Nat) (l2 : Int) (l3 : Int) (l4 : Int) (h : IH) : rn (d + 1) 3 [iR (some l0), iR l1, iI l2, iI l3, iI l4] h = lp d 3 (999999 + 1) 0 [some (iR (some l0)), some (iR l1), some (iI l2), some (iI l3), some (iI l4), none] [] h := rn_lp rfl rfl
set_option maxRecDepth 20000 in
theorem e_Ju_canSend (d n : Nat) (l0 : Nat) (l1 : Option Nat) (l2 : Int) (l3 : Int) (l4 : Int) (h : IH) :
 lp d 3 (n + 1) 0 [some (iR (some l0)), some (iR l1), some (iI l2), some (iI l3), some (iI l4), none] [] h =
 xB l1 fun a1 =>
 xck h a1 11 <|
 kI (rn d 13 [iR (some a1), iI l3, iI l4] h) fun x3 h2 =>
 (if x3 = 0 then
 xZ 0 h2
 else
 xB l1 fun a4 =>
 xck h2 a4 11 <|
 kI (rn d 14 [iR (some a4), iI l3, iI l4] h2) fun x6 h5 =>
 (if x6 = 1 then
 xZ 0 h5
 else
 xB l1 fun a7 =>
 xck h5 a7 11 <|
 kR (rn d 12 [iR (some a7)] h5) fun x9 h8 =>
 (match x9 with
 | none => xZ 1 h8
 | some _ => xck h8 l0 10 <|
 kV (rn d 5 [iR (some l0), iR l1, iI l4, iI l2, iI l3] h8) fun h10 =>
 xck h10 l0 10 <|
 kI (rn d 6 [iR (some l0), iR x9, iI 6] h10) fun x12 h11 =>
 (if x12 = (-2147483648) then
 xZ 1 h11
 else
 xZ 0 h11)))) := rfl
-- TownSundays$Judge.canHave(LTownSundays$Land;II)Z
theorem r_Ju_canHave (d : Nat) (l0 : Nat) (l1 : Option Nat) (l2 : Int) (l3 : Int) (h : IH) : rn (d + 1) 4 [iR (some l0), iR l1, iI l2, iI l3] h = lp d 4 (999999 + 1) 0 [some (iR (some l0)), some (iR l1), some (iI l2), some (iI l3)] [] h := rn_lp rfl rfl
set_option maxRecDepth 20000 in
theorem e_Ju_canHave (d n : Nat) (l0 : Nat) (l1 : Option Nat) (l2 : Int) (l3 : Int) (h : IH) :
 lp d 4 (n + 1) 0 [some (iR (some l0)), some (iR l1), some (iI l2), some (iI l3)] [] h =
 xB l1 fun a2 =>
 xgR h a2 11 2 fun x1 =>
 xB x1 fun a4 =>
 xaI h a4 l3 fun x3 =>
 (if x3 = l2 then
 xZ 1 h
 else
 xB l1 fun a6 =>
 xgR h a6 11 2 fun x5 =>
 xB x5 fun a8 =>
 xaI h a8 l3 fun x7 =>
 xck h l0 10 <|
 kI (rn d 3 [iR (some l0), iR l1, iI l3, iI x7, iI l2] h) fun x10 h9 =>
 (if x10 = 0 then
 xZ 0 h9
 else
 xZ 1 h9)) := rfl
-- TownSundays$Judge.setWords(LTownSundays$Land;III)V
theorem r_Ju_setWords (d : Nat) (l0 : Nat) (l1 : Option Nat) (l2 : Int) (l3 : Int) (l4 : Int) (h : IH) : rn (d + 1) 5 [iR (some l0), iR l1, iI l2, iI l3, iI l4] h = lp d 5 (999999 + 1) 0 [some (iR (some l0)), some (iR l1), some (iI l2), some (iI l3), some (iI l4)] [] h := rn_lp rfl rfl
set_option maxRecDepth 20000 in
theorem e_Ju_setWords (d n : Nat) (l0 : Nat) (l1 : Option Nat) (l2 : Int) (l3 : Int) (l4 : Int) (h : IH) :
 lp d 5 (n + 1) 0 [some (iR (some l0)), some (iR l1), some (iI l2), some (iI l3), some (iI l4)] [] h =
 xgR h l0 10 0 fun x1 =>
 xB x1 fun a3 =>
 xsI h a3 0 l2 fun h2 =>
 xgR h2 l0 10 0 fun x4 =>
 xB x4 fun a6 =>
 xsI h2 a6 1 l3 fun h5 =>
 xgR h5 l0 10 0 fun x7 =>
 xB l1 fun a9 =>
 xgR h5 a9 11 3 fun x8 =>
 xB x8 fun a11 =>
 xaI h5 a11 l3 fun x10 =>
 xB x7 fun a13 =>
 xsI h5 a13 2 x10 fun h12 =>
 xgR h12 l0 10 0 fun x14 =>
 xB l1 fun a16 =>
 xgR h12 a16 11 4 fun x15 =>
 xB x15 fun a18 =>
 xaI h12 a18 l3 fun x17 =>
 xB x14 fun a20 =>
 xsI h12 a20 3 x17 fun h19 =>
 xgR h19 l0 10 0 fun x21 =>
 (if l2 = l3 then
 lp d 5 n 53 [some (iR (some l0)), some (iR l1), some (iI l2), some (iI l3), some (iI l4)] [iI 1, iI 4, iR x21] h19
 else
 lp d 5 n 53 [some (iR (some l0)), some (iR l1), some (iI l2), some (iI l3), some (iI l4)] [iI 0, iI 4, iR x21] h19) := rfl
set_option maxRecDepth 20000 in
theorem e_Ju_setWords_53 (d n : Nat) (l0 : Nat) (l1 : Option Nat) (l2 : Int) (l3 : Int) (l4 : Int) (s0 : Option Nat) (s1 : Int) (s2 : Int) (h : IH) :
 lp d 5 (n + 1) 53 [some (iR (some l0)), some (iR l1), some (iI l2), some (iI l3), some (iI l4)] [iI s2, iI s1, iR s0] h =
 xB s0 fun a2 =>
 xsI h a2 s1 s2 fun h1 =>
 xgR h1 l0 10 0 fun x3 =>
 xB l1 fun a5 =>
 xgR h1 a5 11 5 fun x4 =>
 xB x4 fun a7 =>
 xaI h1 a7 (wr ((wr (l2 * 7)) + l3)) fun x6 =>
 xB x3 fun a9 =>
 xsI h1 a9 5 x6 fun h8 =>
 xgR h8 l0 10 0 fun x10 =>
 xB l1 fun a11 =>
 xck h8 a11 11 <|
 kI (rn d 13 [iR (some a11), iI l4, iI l2] h8) fun x13 h12 =>
 xB x10 fun a15 =>
 xsI h12 a15 6 x13 fun h14 =>
 xgR h14 l0 10 0 fun x16 =>
 xB l1 fun a18 =>
 xgR h14 a18 11 8 fun x17 =>
 xB x17 fun a20 =>
 xaI h14 a20 0 fun x19 =>
 xB x16 fun a22 =>
 xsI h14 a22 7 x19 fun h21 =>
 xgR h21 l0 10 0 fun x23 =>
 xB l1 fun a25 =>
 xgR h21 a25 11 8 fun x24 =>
 xB x24 fun a27 =>
 xaI h21 a27 2 fun x26 =>
 xB x23 fun a29 =>
 xsI h21 a29 8 x26 fun h28 =>
 some (o0, h28) := rfl
-- TownSundays$Judge.lastTold(LTownSundays$Text;I)I
theorem r_Ju_lastTold (d : Nat) (l0 : Nat) (l1 : Option Nat) (l2 : Int) (h : IH) : rn (d + 1) 6 [iR (some l0), iR l1, iI l2] h = lp d 6 (999999 + 1) 0 [some (iR (some l0)), some (iR l1), some (iI l2), none, none, none] [] h := rn_lp rfl rfl
set_option maxRecDepth 20000 in
theorem e_Ju_lastTold (d n : Nat) (l0 : Nat) (l1 : Option Nat) (l2 : Int) (h : IH) :
 lp d 6 (n + 1) 0 [some (iR (some l0)), some (iR l1), some (iI l2), none, none, none] [] h =
 xB l1 fun a2 =>
 xgI h a2 19 7 fun x1 =>
 lp d 6 n 7 [some (iR (some l0)), some (iR l1), some (iI l2), some (iI (wr (x1 - 1))), none, none] [] h := rfl
set_option maxRecDepth 20000 in
theorem e_Ju_lastTold_7 (d n : Nat) (l0 : Nat) (l1 : Option Nat) (l2 : Int) (l3 : Int) (h : IH) :
 lp d 6 (n + 1) 7 [some (iR (some l0)), some (iR l1), some (iI l2), some (iI l3), none, none] [] h =
 (if l3 < 0 then
 some (oI (-2147483648), h)
 else
 xB l1 fun a2 =>
 xgR h a2 19 2 fun x1 =>
 xB x1 fun a4 =>
 xaI h a4 l3 fun x3 =>
 (if x3 = l2 then
 xgR h l0 10 1 fun x5 =>
 xgR h l0 10 0 fun x6 =>
 xB x5 fun a7 =>
 xck h a7 16 <|
 kI (rn d 73 [iR (some a7), iR l1, iI (wr ((wr (l3 * 4)) + 3)), iR x6] h) fun x9 h8 =>
 (if x9 = 1 then
 xgR h8 l0 10 1 fun x10 =>
 xgR h8 l0 10 0 fun x11 =>
 xB x10 fun a12 =>
 xck h8 a12 16 <|
 kI (rn d 73 [iR (some a12), iR l1, iI (wr (l3 * 4)), iR x11] h8) fun x14 h13 =>
 (if x14 = (-2147483648) then
 lp d 6 n 7 [some (iR (some l0)), some (iR l1), some (iI l2), some (iI (wr (l3 + (-1)))), none, none] [] h13
 else
 some (oI x14, h13))
 else
 lp d 6 n 7 [some (iR (some l0)), some (iR l1), some (iI l2), some (iI (wr (l3 + (-1)))), none, none] [] h8)
 else
 lp d 6 n 7 [some (iR (some l0)), some (iR l1), some (iI l2), some (iI (wr (l3 + (-1)))), none, none] [] h)) := rfl
-- TownSundays$Judge.nearest(II)I
theorem r_Ju_nearest (d : Nat) (l0 : Int) (l1 : Int) (h : IH) : rn (d + 1) 7 [iI l0, iI l1] h = lp d 7 (999999 + 1) 0 [some (iI l0), some (iI l1)] [] h := rn_lp rfl rfl
set_option maxRecDepth 20000 in
theorem e_Ju_nearest (d n : Nat) (l0 : Int) (l1 : Int) (h : IH) :
 lp d 7 (n + 1) 0 [some (iI l0), some (iI l1)] [] h =
 some (oI (imax 0 (imin l0 l1)), h) := rfl
-- TownSundays$Land.init()V
theorem r_La_init (d : Nat) (l0 : Nat) (h : IH) : rn (d + 1) 8 [iR (some l0)] h = lp d 8 (999999 + 1) 0 [some (iR (some l0)), none] [] h := rn_lp rfl rfl
set_option maxRecDepth 20000 in
theorem e_La_init (d n : Nat) (l0 : Nat) (h : IH) :
 lp d 8 (n + 1) 0 [some (iR (some l0)), none] [] h =
 xpI h l0 11 0 0 fun h1 =>
 xnA h1 0 7 fun a2 h3 =>
 xpR h3 l0 11 1 (some a2) fun h4 =>
 xnA h4 0 7 fun a5 h6 =>
 xpR h6 l0 11 2 (some a5) fun h7 =>
 xnA h7 0 7 fun a8 h9 =>
 xpR h9 l0 11 3 (some a8) fun h10 =>
 xnA h10 0 7 fun a11 h12 =>
 xpR h12 l0 11 4 (some a11) fun h13 =>
 xnA h13 0 49 fun a14 h15 =>
 xpR h15 l0 11 5 (some a14) fun h16 =>
 xnA h16 0 49 fun a17 h18 =>
 xpR h18 l0 11 6 (some a17) fun h19 =>
 xnA h19 0 7 fun a20 h21 =>
 xpR h21 l0 11 7 (some a20) fun h22 =>
 xle h22 1 fun x23 =>
 xnA h22 0 x23 fun a24 h25 =>
 xpR h25 l0 11 8 (some a24) fun h26 =>
 xnA h26 0 6 fun a27 h28 =>
 xpR h28 l0 11 9 (some a27) fun h29 =>
 xnA h29 0 6 fun a30 h31 =>
 xpR h31 l0 11 10 (some a30) fun h32 =>
 xpI h32 l0 11 11 0 fun h33 =>
 xnA h33 4 6 fun a34 h35 =>
 xpR h35 l0 11 12 (some a34) fun h36 =>
 xpI h36 l0 11 13 0 fun h37 =>
 xpI h37 l0 11 14 (-1) fun h38 =>
 lp d 8 n 117 [some (iR (some l0)), some (iI 0)] [] h38 := rfl
set_option maxRecDepth 20000 in
theorem e_La_init_117 (d n : Nat) (l0 : Nat) (l1 : Int) (h : IH) :
 lp d 8 (n + 1) 117 [some (iR (some l0)), some (iI l1)] [] h =
 (if l1 < 7 then
 xgR h l0 11 1 fun x1 =>
 xB x1 fun a3 =>
 xsI h a3 l1 l1 fun h2 =>
 xgR h2 l0 11 2 fun x4 =>
 xB x4 fun a6 =>
 xsI h2 a6 l1 l1 fun h5 =>
 lp d 8 n 117 [some (iR (some l0)), some (iI (wr (l1 + 1)))] [] h5
 else
 xgR h l0 11 8 fun x7 =>
 xB x7 fun a9 =>
 xsI h a9 1 1 fun h8 =>
 some (o0, h8)) := rfl
-- TownSundays$Land.copyFrom(LTownSundays$Land;)V
theorem r_La_copyFrom (d : Nat) (l0 : Nat) (l1 : Option Nat) (h : IH) : rn (d + 1) 9 [iR (some l0), iR l1] h = lp d 9 (999999 + 1) 0 [some (iR (some l0)), some (iR l1), none] [] h := rn_lp rfl rfl
set_option maxRecDepth 20000 in
theorem e_La_copyFrom (d n : Nat) (l0 : Nat) (l1 : Option Nat) (h : IH) :
 lp d 9 (n + 1) 0 [some (iR (some l0)), some (iR l1), none] [] h =
 xB l1 fun a2 =>
 xgI h a2 11 0 fun x1 =>
 xpI h l0 11 0 x1 fun h3 =>
 xB l1 fun a5 =>
 xgR h3 a5 11 1 fun x4 =>
 xgR h3 l0 11 1 fun x6 =>
 xcp h3 x4 0 x6 0 7 fun h7 =>
 xB l1 fun a9 =>
 xgR h7 a9 11 2 fun x8 =>
 xgR h7 l0 11 2 fun x10 =>
 xcp h7 x8 0 x10 0 7 fun h11 =>
 xB l1 fun a13 =>
 xgR h11 a13 11 3 fun x12 =>
 xgR h11 l0 11 3 fun x14 =>
 xcp h11 x12 0 x14 0 7 fun h15 =>
 xB l1 fun a17 =>
 xgR h15 a17 11 4 fun x16 =>
 xgR h15 l0 11 4 fun x18 =>
 xcp h15 x16 0 x18 0 7 fun h19 =>
 xB l1 fun a21 =>
 xgR h19 a21 11 5 fun x20 =>
 xgR h19 l0 11 5 fun x22 =>
 xcp h19 x20 0 x22 0 49 fun h23 =>
 xB l1 fun a25 =>
 xgR h23 a25 11 6 fun x24 =>
 xgR h23 l0 11 6 fun x26 =>
 xcp h23 x24 0 x26 0 49 fun h27 =>
 xB l1 fun a29 =>
 xgR h27 a29 11 7 fun x28 =>
 xgR h27 l0 11 7 fun x30 =>
 xcp h27 x28 0 x30 0 7 fun h31 =>
 lp d 9 n 113 [some (iR (some l0)), some (iR l1), none] [] h31 := rfl
set_option maxRecDepth 20000 in
theorem e_La_copyFrom_113 (d n : Nat) (l0 : Nat) (l1 : Option Nat) (h : IH) :
 lp d 9 (n + 1) 113 [some (iR (some l0)), some (iR l1), none] [] h =
 xB l1 fun a2 =>
 xgR h a2 11 8 fun x1 =>
 xgR h l0 11 8 fun x3 =>
 xle h 1 fun x4 =>
 xcp h x1 0 x3 0 x4 fun h5 =>
 xB l1 fun a7 =>
 xgR h5 a7 11 9 fun x6 =>
 xgR h5 l0 11 9 fun x8 =>
 xcp h5 x6 0 x8 0 6 fun h9 =>
 xB l1 fun a11 =>
 xgR h9 a11 11 10 fun x10 =>
 xgR h9 l0 11 10 fun x12 =>
 xcp h9 x10 0 x12 0 6 fun h13 =>
 xB l1 fun a15 =>
 xgI h13 a15 11 11 fun x14 =>
 xpI h13 l0 11 11 x14 fun h16 =>
 lp d 9 n 170 [some (iR (some l0)), some (iR l1), some (iI 0)] [] h16 := rfl
set_option maxRecDepth 20000 in
theorem e_La_copyFrom_170 (d n : Nat) (l0 : Nat) (l1 : Option Nat) (l2 : Int) (h : IH) :
 lp d 9 (n + 1) 170 [some (iR (some l0)), some (iR l1), some (iI l2)] [] h =
 (if l2 < 6 then
 xgR h l0 11 12 fun x1 =>
 xB l1 fun a3 =>
 xgR h a3 11 12 fun x2 =>
 xB x2 fun a5 =>
 xaR h a5 l2 fun x4 =>
 xB x1 fun a7 =>
 xsR h a7 l2 x4 fun h6 =>
 lp d 9 n 170 [some (iR (some l0)), some (iR l1), some (iI (wr (l2 + 1)))] [] h6
 else
 xB l1 fun a9 =>
 xgI h a9 11 13 fun x8 =>
 xpI h l0 11 13 x8 fun h10 =>
 xB l1 fun a12 =>
 xgI h10 a12 11 14 fun x11 =>
 xpI h10 l0 11 14 x11 fun h13 =>
 some (o0, h13)) := rfl
-- TownSundays$Land.isTown(I)Z
theorem r_La_isTown (d : Nat) (l0 : Nat) (l1 : Int) (h : IH) : rn (d + 1) 10 [iR (some l0), iI l1] h = lp d 10 (999999 + 1) 0 [some (iR (some l0)), some (iI l1)] [] h := rn_lp rfl rfl
set_option maxRecDepth 20000 in
theorem e_La_isTown (d n : Nat) (l0 : Nat) (l1 : Int) (h : IH) :
 lp d 10 (n + 1) 0 [some (iR (some l0)), some (iI l1)] [] h =
 (if l1 < 0 then
 xZ 0 h
 else
 xgI h l0 11 0 fun x1 =>
 (if l1 < x1 then
 xZ 1 h
 else
 xZ 0 h)) := rfl
-- TownSundays$Land.isLaw(I)Z
theorem r_La_isLaw (d : Nat) (l0 : Nat) (l1 : Int) (h : IH) : rn (d + 1) 11 [iR (some l0), iI l1] h = lp d 11 (999999 + 1) 0 [some (iR (some l0)), some (iI l1)] [] h := rn_lp rfl rfl
set_option maxRecDepth 20000 in
theorem e_La_isLaw (d n : Nat) (l0 : Nat) (l1 : Int) (h : IH) :
 lp d 11 (n + 1) 0 [some (iR (some l0)), some (iI l1)] [] h =
 (if l1 < 0 then
 xZ 0 h
 else
 xgI h l0 11 13 fun x1 =>
 (if l1 < x1 then
 xZ 1 h
 else
 xZ 0 h)) := rfl
-- TownSundays$Land.lawInForce()LTownSundays$Text;
theorem r_La_lawInForce (d : Nat) (l0 : Nat) (h : IH) : rn (d + 1) 12 [iR (some l0)] h = lp d 12 (999999 + 1) 0 [some (iR (some l0))] [] h := rn_lp rfl rfl
set_option maxRecDepth 20000 in
theorem e_La_lawInForce (d n : Nat) (l0 : Nat) (h : IH) :
 lp d 12 (n + 1) 0 [some (iR (some l0))] [] h =
 xgI h l0 11 14 fun x1 =>
 xck h l0 11 <|
 kI (rn d 11 [iR (some l0), iI x1] h) fun x3 h2 =>
 (if x3 = 0 then
 some (oR none, h2)
 else
 xgR h2 l0 11 12 fun x4 =>
 xgI h2 l0 11 14 fun x5 =>
 xB x4 fun a7 =>
 xaR h2 a7 x5 fun x6 =>
 some (oR x6, h2)) := rfl
-- TownSundays$Land.milesBetween(II)I
theorem r_La_milesBetween (d : Nat) (l0 : Nat) (l1 : Int) (l2 : Int) (h : IH) : rn (d + 1) 13 [iR (some l0), iI l1, iI l2] h = lp d 13 (999999 + 1) 0 [some (iR (some l0)), some (iI l1), some (iI l2)] [] h := rn_lp rfl rfl
set_option maxRecDepth 20000 in
theorem e_La_milesBetween (d n : Nat) (l0 : Nat) (l1 : Int) (l2 : Int) (h : IH) :
 lp d 13 (n + 1) 0 [some (iR (some l0)), some (iI l1), some (iI l2)] [] h =
 xgR h l0 11 6 fun x1 =>
 xB x1 fun a3 =>
 xaI h a3 (wr ((wr (l1 * 7)) + l2)) fun x2 =>
 some (oI x2, h) := rfl
-- TownSundays$Land.closedBetween(II)I
theorem r_La_closedBetween (d : Nat) (l0 : Nat) (l1 : Int) (l2 : Int) (h : IH) : rn (d + 1) 14 [iR (some l0), iI l1, iI l2] h = lp d 14 (999999 + 1) 0 [some (iR (some l0)), some (iI l1), some (iI l2)] [] h := rn_lp rfl rfl
set_option maxRecDepth 20000 in
theorem e_La_closedBetween (d n : Nat) (l0 : Nat) (l1 : Int) (l2 : Int) (h : IH) :
 lp d 14 (n + 1) 0 [some (iR (some l0)), some (iI l1), some (iI l2)] [] h =
 xgR h l0 11 7 fun x1 =>
 xB x1 fun a3 =>
 xaI h a3 l1 fun x2 =>
 some (oI (iand (ishr x2 l2) 1), h) := rfl
-- TownSundays$Land.setRoad(III)V
theorem r_La_setRoad (d : Nat) (l0 : Nat) (l1 : Int) (l2 : Int) (l3 : Int) (h : IH) : rn (d + 1) 15 [iR (some l0), iI l1, iI l2, iI l3] h = lp d 15 (999999 + 1) 0 [some (iR (some l0)), some (iI l1), some (iI l2), some (iI l3)] [] h := rn_lp rfl rfl
set_option maxRecDepth 20000 in
theorem e_La_setRoad (d n : Nat) (l0 : Nat) (l1 : Int) (l2 : Int) (l3 : Int) (h : IH) :
 lp d 15 (n + 1) 0 [some (iR (some l0)), some (iI l1), some (iI l2), some (iI l3)] [] h =
 xgR h l0 11 6 fun x1 =>
 xB x1 fun a3 =>
 xsI h a3 (wr ((wr (l1 * 7)) + l2)) l3 fun h2 =>
 xgR h2 l0 11 6 fun x4 =>
 xB x4 fun a6 =>
 xsI h2 a6 (wr ((wr (l2 * 7)) + l1)) l3 fun h5 =>
 xgR h5 l0 11 7 fun x7 =>
 xB x7 fun a9 =>
 xaI h5 a9 l1 fun x8 =>
 xB x7 fun a11 =>
 xsI h5 a11 l1 (iand x8 (ixor (ishl 1 l2) (-1))) fun h10 =>
 xgR h10 l0 11 7 fun x12 =>
 xB x12 fun a14 =>
 xaI h10 a14 l2 fun x13 =>
 xB x12 fun a16 =>
 xsI h10 a16 l2 (iand x13 (ixor (ishl 1 l1) (-1))) fun h15 =>
 some (o0, h15) := rfl
-- TownSundays$Land.turnClosed(II)V
theorem r_La_turnClosed (d : Nat) (l0 : Nat) (l1 : Int) (l2 : Int) (h : IH) : rn (d + 1) 16 [iR (some l0), iI l1, iI l2] h = lp d 16 (999999 + 1) 0 [some (iR (some l0)), some (iI l1), some (iI l2)] [] h := rn_lp rfl rfl
set_option maxRecDepth 20000 in
theorem e_La_turnClosed (d n : Nat) (l0 : Nat) (l1 : Int) (l2 : Int) (h : IH) :
 lp d 16 (n + 1) 0 [some (iR (some l0)), some (iI l1), some (iI l2)] [] h =
 xgR h l0 11 7 fun x1 =>
 xB x1 fun a3 =>
 xaI h a3 l1 fun x2 =>
 xB x1 fun a5 =>
 xsI h a5 l1 (ixor x2 (ishl 1 l2)) fun h4 =>
 xgR h4 l0 11 7 fun x6 =>
 xB x6 fun a8 =>
 xaI h4 a8 l2 fun x7 =>
 xB x6 fun a10 =>
 xsI h4 a10 l2 (ixor x7 (ishl 1 l1)) fun h9 =>
 some (o0, h9) := rfl
-- TownSundays$Land.put(II)V
theorem r_La_put (d : Nat) (l0 : Nat) (l1 : Int) (l2 : Int) (h : IH) : rn (d + 1) 17 [iR (some l0), iI l1, iI l2] h = lp d 17 (999999 + 1) 0 [some (iR (some l0)), some (iI l1), some (iI l2)] [] h := rn_lp rfl rfl
set_option maxRecDepth 20000 in
theorem e_La_put (d n : Nat) (l0 : Nat) (l1 : Int) (l2 : Int) (h : IH) :
 lp d 17 (n + 1) 0 [some (iR (some l0)), some (iI l1), some (iI l2)] [] h =
 xgR h l0 11 1 fun x1 =>
 xB x1 fun a3 =>
 xsI h a3 l1 l2 fun h2 =>
 xgR h2 l0 11 2 fun x4 =>
 xB x4 fun a6 =>
 xsI h2 a6 l2 l1 fun h5 =>
 some (o0, h5) := rfl
-- TownSundays$Land.countHome()I
theorem r_La_countHome (d : Nat) (l0 : Nat) (h : IH) : rn (d + 1) 18 [iR (some l0)] h = lp d 18 (999999 + 1) 0 [some (iR (some l0)), none, none] [] h := rn_lp rfl rfl
set_option maxRecDepth 20000 in
theorem e_La_countHome (d n : Nat) (l0 : Nat) (h : IH) :
 lp d 18 (n + 1) 0 [some (iR (some l0)), none, none] [] h =
 lp d 18 n 4 [some (iR (some l0)), some (iI 0), some (iI 0)] [] h := rfl
set_option maxRecDepth 20000 in
theorem e_La_countHome_4 (d n : Nat) (l0 : Nat) (l1 : Int) (l2 : Int) (h : IH) :
 lp d 18 (n + 1) 4 [some (iR (some l0)), some (iI l1), some (iI l2)] [] h =
 xgI h l0 11 0 fun x1 =>
 (if l2 < x1 then
 xgR h l0 11 2 fun x2 =>
 xB x2 fun a4 =>
 xaI h a4 l2 fun x3 =>
 (if x3 = l2 then
 lp d 18 n 4 [some (iR (some l0)), some (iI (wr (l1 + 1))), some (iI (wr (l2 + 1)))] [] h
 else
 lp d 18 n 4 [some (iR (some l0)), some (iI l1), some (iI (wr (l2 + 1)))] [] h)
 else
 some (oI l1, h)) := rfl
-- TownSundays$Land.countRoads(Z)I
theorem r_La_countRoads (d : Nat) (l0 : Nat) (l1 : Int) (h : IH) : rn (d + 1) 19 [iR (some l0), iI l1] h = lp d 19 (999999 + 1) 0 [some (iR (some l0)), some (iI l1), none, none, none, none] [] h := rn_lp rfl rfl
set_option maxRecDepth 20000 in
theorem e_La_countRoads (d n : Nat) (l0 : Nat) (l1 : Int) (h : IH) :
 lp d 19 (n + 1) 0 [some (iR (some l0)), some (iI l1), none, none, none, none] [] h =
 lp d 19 n 4 [some (iR (some l0)), some (iI l1), some (iI 0), some (iI 0), none, none] [] h := rfl
set_option maxRecDepth 20000 in
theorem e_La_countRoads_4 (d n : Nat) (l0 : Nat) (l1 : Int) (l2 : Int) (l3 : Int) (h : IH) :
 lp d 19 (n + 1) 4 [some (iR (some l0)), some (iI l1), some (iI l2), some (iI l3), none, none] [] h =
 xgI h l0 11 0 fun x1 =>
 (if l3 < x1 then
 lp d 19 n 17 [some (iR (some l0)), some (iI l1), some (iI l2), some (iI l3), some (iI (wr (l3 + 1))), none] [] h
 else
 some (oI l2, h)) := rfl
set_option maxRecDepth 20000 in
theorem e_La_countRoads_17 (d n : Nat) (l0 : Nat) (l1 : Int) (l2 : Int) (l3 : Int) (l4 : Int) (h : IH) :
 lp d 19 (n + 1) 17 [some (iR (some l0)), some (iI l1), some (iI l2), some (iI l3), some (iI l4), none] [] h =
 xgI h l0 11 0 fun x1 =>
 (if l4 < x1 then
 (if l1 = 0 then
 (if 1 = 0 then
 lp d 19 n 17 [some (iR (some l0)), some (iI l1), some (iI l2), some (iI l3), some (iI (wr (l4 + 1))), none] [] h
 else
 xck h l0 11 <|
 kI (rn d 13 [iR (some l0), iI l3, iI l4] h) fun x3 h2 =>
 (if x3 ≤ 0 then
 lp d 19 n 17 [some (iR (some l0)), some (iI l1), some (iI l2), some (iI l3), some (iI (wr (l4 + 1))), none] [] h2
 else
 lp d 19 n 17 [some (iR (some l0)), some (iI l1), some (iI (wr (l2 + 1))), some (iI l3), some (iI (wr (l4 + 1))), none] [] h2))
 else
 xck h l0 11 <|
 kI (rn d 14 [iR (some l0), iI l3, iI l4] h) fun x5 h4 =>
 (if x5 = 1 then
 (if 1 = 0 then
 lp d 19 n 17 [some (iR (some l0)), some (iI l1), some (iI l2), some (iI l3), some (iI (wr (l4 + 1))), none] [] h4
 else
 xck h4 l0 11 <|
 kI (rn d 13 [iR (some l0), iI l3, iI l4] h4) fun x7 h6 =>
 (if x7 ≤ 0 then
 lp d 19 n 17 [some (iR (some l0)), some (iI l1), some (iI l2), some (iI l3), some (iI (wr (l4 + 1))), none] [] h6
 else
 lp d 19 n 17 [some (iR (some l0)), some (iI l1), some (iI (wr (l2 + 1))), some (iI l3), some (iI (wr (l4 + 1))), none] [] h6))
 else
 (if 0 = 0 then
 lp d 19 n 17 [some (iR (some l0)), some (iI l1), some (iI l2), some (iI l3), some (iI (wr (l4 + 1))), none] [] h4
 else
 xck h4 l0 11 <|
 kI (rn d 13 [iR (some l0), iI l3, iI l4] h4) fun x9 h8 =>
 (if x9 ≤ 0 then
 lp d 19 n 17 [some (iR (some l0)), some (iI l1), some (iI l2), some (iI l3), some (iI (wr (l4 + 1))), none] [] h8
 else
 lp d 19 n 17 [some (iR (some l0)), some (iI l1), some (iI (wr (l2 + 1))), some (iI l3), some (iI (wr (l4 + 1))), none] [] h8))))
 else
 lp d 19 n 4 [some (iR (some l0)), some (iI l1), some (iI l2), some (iI (wr (l3 + 1))), none, none] [] h) := rfl
theorem i_vc : Claimed_1_1 ∧ Claimed_1_2 := sorry
