/-! Equations of methods 0 to 77 (by program, wip/whole/gen17.py) -/
-- TownSundays$Judge.init()V
theorem r_Ju_init (d : Nat) (l0 : Nat) (h : IH) : rn (d + 1) 0 [iR (some l0)] h = lp d 0 (999999 + 1) 0 [some (iR (some l0))] [] h := rn_lp rfl rfl
set_option maxRecDepth 20000 in
set_option maxHeartbeats 4000000 in
theorem e_Ju_init (d n : Nat) (l0 : Nat) (h : IH) :
 lp d 0 (n + 1) 0 [some (iR (some l0))] [] h =
 (xnA h 0 9 fun a1 h2 =>
 xpR h2 l0 10 0 (some a1) fun h3 =>
 xnO h3 6 fun a4 h5 =>
 kV (rn d 72 [iR (some a4)] h5) fun h6 =>
 xpR h6 l0 10 1 (some a4) fun h7 =>
 some (o0, h7)) := rfl
-- TownSundays$Judge.likingOf(LTownSundays$Land;LTownSundays$Text;II)I
theorem r_Ju_likingOf (d : Nat) (l0 : Nat) (l1 : Option Nat) (l2 : Option Nat) (l3 : Int) (l4 : Int) (h : IH) : rn (d + 1) 1 [iR (some l0), iR l1, iR l2, iI l3, iI l4] h = lp d 1 (999999 + 1) 0 [some (iR (some l0)), some (iR l1), some (iR l2), some (iI l3), some (iI l4), none] [] h := rn_lp rfl rfl
set_option maxRecDepth 20000 in
set_option maxHeartbeats 4000000 in
theorem e_Ju_likingOf (d n : Nat) (l0 : Nat) (l1 : Option Nat) (l2 : Option Nat) (l3 : Int) (l4 : Int) (h : IH) :
 lp d 1 (n + 1) 0 [some (iR (some l0)), some (iR l1), some (iR l2), some (iI l3), some (iI l4), none] [] h =
 ((match l2 with
 | none => xB l1 fun a2 =>
 xgR h a2 11 3 fun x1 =>
 xB x1 fun a4 =>
 xaI h a4 l4 fun x3 =>
 some (oI x3, h)
 | some _ => xB l1 fun a6 =>
 xgR h a6 11 2 fun x5 =>
 xB x5 fun a8 =>
 xaI h a8 l4 fun x7 =>
 xck h l0 10 <|
 kV (rn d 5 [iR (some l0), iR l1, iI l3, iI l4, iI x7] h) fun h9 =>
 xck h9 l0 10 <|
 kI (rn d 6 [iR (some l0), iR l2, iI 4] h9) fun x11 h10 =>
 (if x11 = (-2147483648) then
 xB l1 fun a13 =>
 xgR h10 a13 11 3 fun x12 =>
 xB x12 fun a15 =>
 xaI h10 a15 l4 fun x14 =>
 some (oI x14, h10)
 else
 kI (rn d 7 [iI x11, iI 99] h10) fun x17 h16 =>
 some (oI x17, h16)))) := rfl
-- TownSundays$Judge.alteredBells(LTownSundays$Land;I)I
theorem r_Ju_alteredBells (d : Nat) (l0 : Nat) (l1 : Option Nat) (l2 : Int) (h : IH) : rn (d + 1) 2 [iR (some l0), iR l1, iI l2] h = lp d 2 (999999 + 1) 0 [some (iR (some l0)), some (iR l1), some (iI l2), none, none] [] h := rn_lp rfl rfl
set_option maxRecDepth 20000 in
set_option maxHeartbeats 4000000 in
theorem e_Ju_alteredBells (d n : Nat) (l0 : Nat) (l1 : Option Nat) (l2 : Int) (h : IH) :
 lp d 2 (n + 1) 0 [some (iR (some l0)), some (iR l1), some (iI l2), none, none] [] h =
 (xB l1 fun a1 =>
 xck h a1 11 <|
 kR (rn d 12 [iR (some a1)] h) fun x3 h2 =>
 (match x3 with
 | none => xB l1 fun a5 =>
 xgR h2 a5 11 3 fun x4 =>
 xB x4 fun a7 =>
 xaI h2 a7 l2 fun x6 =>
 some (oI x6, h2)
 | some _ => xB l1 fun a9 =>
 xgR h2 a9 11 2 fun x8 =>
 xB x8 fun a11 =>
 xaI h2 a11 l2 fun x10 =>
 xB l1 fun a13 =>
 xgR h2 a13 11 2 fun x12 =>
 xB x12 fun a15 =>
 xaI h2 a15 l2 fun x14 =>
 xck h2 l0 10 <|
 kV (rn d 5 [iR (some l0), iR l1, iI x10, iI l2, iI x14] h2) fun h16 =>
 xck h16 l0 10 <|
 kI (rn d 6 [iR (some l0), iR x3, iI 5] h16) fun x18 h17 =>
 (if x18 = (-2147483648) then
 xB l1 fun a20 =>
 xgR h17 a20 11 3 fun x19 =>
 xB x19 fun a22 =>
 xaI h17 a22 l2 fun x21 =>
 some (oI x21, h17)
 else
 kI (rn d 7 [iI x18, iI 9] h17) fun x24 h23 =>
 some (oI x24, h23)))) := rfl
-- TownSundays$Judge.canSend(LTownSundays$Land;III)Z
theorem r_Ju_canSend (d : Nat) (l0 : Nat) (l1 : Option Nat) (l2 : Int) (l3 : Int) (l4 : Int) (h : IH) : rn (d + 1) 3 [iR (some l0), iR l1, iI l2, iI l3, iI l4] h = lp d 3 (999999 + 1) 0 [some (iR (some l0)), some (iR l1), some (iI l2), some (iI l3), some (iI l4), none] [] h := rn_lp rfl rfl
set_option maxRecDepth 20000 in
set_option maxHeartbeats 4000000 in
theorem e_Ju_canSend (d n : Nat) (l0 : Nat) (l1 : Option Nat) (l2 : Int) (l3 : Int) (l4 : Int) (h : IH) :
 lp d 3 (n + 1) 0 [some (iR (some l0)), some (iR l1), some (iI l2), some (iI l3), some (iI l4), none] [] h =
 (xB l1 fun a1 =>
 xck h a1 11 <|
 kI (rn d 13 [iR (some a1), iI l3, iI l4] h) fun x3 h2 =>
 (if x3 = 0 then
 xZ 0 h2
 else
 xB l1 fun a4 =>
 xck h2 a4 11 <|
 kI (rn d 14 [iR (some a4), iI l3, iI l4] h2) fun x6 h5 =>
 (if x6 = 1 then
 xZ 0 h5
 else
 xB l1 fun a7 =>
 xck h5 a7 11 <|
 kR (rn d 12 [iR (some a7)] h5) fun x9 h8 =>
 (match x9 with
 | none => xZ 1 h8
 | some _ => xck h8 l0 10 <|
 kV (rn d 5 [iR (some l0), iR l1, iI l4, iI l2, iI l3] h8) fun h10 =>
 xck h10 l0 10 <|
 kI (rn d 6 [iR (some l0), iR x9, iI 6] h10) fun x12 h11 =>
 (if x12 = (-2147483648) then
 xZ 1 h11
 else
 xZ 0 h11))))) := rfl
-- TownSundays$Judge.canHave(LTownSundays$Land;II)Z
theorem r_Ju_canHave (d : Nat) (l0 : Nat) (l1 : Option Nat) (l2 : Int) (l3 : Int) (h : IH) : rn (d + 1) 4 [iR (some l0), iR l1, iI l2, iI l3] h = lp d 4 (999999 + 1) 0 [some (iR (some l0)), some (iR l1), some (iI l2), some (iI l3)] [] h := rn_lp rfl rfl
set_option maxRecDepth 20000 in
set_option maxHeartbeats 4000000 in
theorem e_Ju_canHave (d n : Nat) (l0 : Nat) (l1 : Option Nat) (l2 : Int) (l3 : Int) (h : IH) :
 lp d 4 (n + 1) 0 [some (iR (some l0)), some (iR l1), some (iI l2), some (iI l3)] [] h =
 (xB l1 fun a2 =>
 xgR h a2 11 2 fun x1 =>
 xB x1 fun a4 =>
 xaI h a4 l3 fun x3 =>
 (if x3 = l2 then
 xZ 1 h
 else
 xB l1 fun a6 =>
 xgR h a6 11 2 fun x5 =>
 xB x5 fun a8 =>
 xaI h a8 l3 fun x7 =>
 xck h l0 10 <|
 kI (rn d 3 [iR (some l0), iR l1, iI l3, iI x7, iI l2] h) fun x10 h9 =>
 (if x10 = 0 then
 xZ 0 h9
 else
 xZ 1 h9))) := rfl
-- TownSundays$Judge.setWords(LTownSundays$Land;III)V
theorem r_Ju_setWords (d : Nat) (l0 : Nat) (l1 : Option Nat) (l2 : Int) (l3 : Int) (l4 : Int) (h : IH) : rn (d + 1) 5 [iR (some l0), iR l1, iI l2, iI l3, iI l4] h = lp d 5 (999999 + 1) 0 [some (iR (some l0)), some (iR l1), some (iI l2), some (iI l3), some (iI l4)] [] h := rn_lp rfl rfl
set_option maxRecDepth 20000 in
set_option maxHeartbeats 4000000 in
theorem e_Ju_setWords (d n : Nat) (l0 : Nat) (l1 : Option Nat) (l2 : Int) (l3 : Int) (l4 : Int) (h : IH) :
 lp d 5 (n + 1) 0 [some (iR (some l0)), some (iR l1), some (iI l2), some (iI l3), some (iI l4)] [] h =
 (xgR h l0 10 0 fun x1 =>
 xB x1 fun a3 =>
 xsI h a3 0 l2 fun h2 =>
 xgR h2 l0 10 0 fun x4 =>
 xB x4 fun a6 =>
 xsI h2 a6 1 l3 fun h5 =>
 xgR h5 l0 10 0 fun x7 =>
 xB l1 fun a9 =>
 xgR h5 a9 11 3 fun x8 =>
 xB x8 fun a11 =>
 xaI h5 a11 l3 fun x10 =>
 xB x7 fun a13 =>
 xsI h5 a13 2 x10 fun h12 =>
 xgR h12 l0 10 0 fun x14 =>
 xB l1 fun a16 =>
 xgR h12 a16 11 4 fun x15 =>
 xB x15 fun a18 =>
 xaI h12 a18 l3 fun x17 =>
 xB x14 fun a20 =>
 xsI h12 a20 3 x17 fun h19 =>
 xgR h19 l0 10 0 fun x21 =>
 (if l2 = l3 then
 lp d 5 n 53 [some (iR (some l0)), some (iR l1), some (iI l2), some (iI l3), some (iI l4)] [iI 1, iI 4, iR x21] h19
 else
 lp d 5 n 53 [some (iR (some l0)), some (iR l1), some (iI l2), some (iI l3), some (iI l4)] [iI 0, iI 4, iR x21] h19)) := rfl
set_option maxRecDepth 20000 in
set_option maxHeartbeats 4000000 in
theorem e_Ju_setWords_53 (d n : Nat) (l0 : Nat) (l1 : Option Nat) (l2 : Int) (l3 : Int) (l4 : Int) (s0 : Option Nat) (s1 : Int) (s2 : Int) (h : IH) :
 lp d 5 (n + 1) 53 [some (iR (some l0)), some (iR l1), some (iI l2), some (iI l3), some (iI l4)] [iI s2, iI s1, iR s0] h =
 (xB s0 fun a2 =>
 xsI h a2 s1 s2 fun h1 =>
 xgR h1 l0 10 0 fun x3 =>
 xB l1 fun a5 =>
 xgR h1 a5 11 5 fun x4 =>
 xB x4 fun a7 =>
 xaI h1 a7 (wr ((wr (l2 * 7)) + l3)) fun x6 =>
 xB x3 fun a9 =>
 xsI h1 a9 5 x6 fun h8 =>
 xgR h8 l0 10 0 fun x10 =>
 xB l1 fun a11 =>
 xck h8 a11 11 <|
 kI (rn d 13 [iR (some a11), iI l4, iI l2] h8) fun x13 h12 =>
 xB x10 fun a15 =>
 xsI h12 a15 6 x13 fun h14 =>
 xgR h14 l0 10 0 fun x16 =>
 xB l1 fun a18 =>
 xgR h14 a18 11 8 fun x17 =>
 xB x17 fun a20 =>
 xaI h14 a20 0 fun x19 =>
 xB x16 fun a22 =>
 xsI h14 a22 7 x19 fun h21 =>
 xgR h21 l0 10 0 fun x23 =>
 xB l1 fun a25 =>
 xgR h21 a25 11 8 fun x24 =>
 xB x24 fun a27 =>
 xaI h21 a27 2 fun x26 =>
 xB x23 fun a29 =>
 xsI h21 a29 8 x26 fun h28 =>
 some (o0, h28)) := rfl
-- TownSundays$Judge.lastTold(LTownSundays$Text;I)I
theorem r_Ju_lastTold (d : Nat) (l0 : Nat) (l1 : Option Nat) (l2 : Int) (h : IH) : rn (d + 1) 6 [iR (some l0), iR l1, iI l2] h = lp d 6 (999999 + 1) 0 [some (iR (some l0)), some (iR l1), some (iI l2), none, none, none] [] h := rn_lp rfl rfl
set_option maxRecDepth 20000 in
set_option maxHeartbeats 4000000 in
theorem e_Ju_lastTold (d n : Nat) (l0 : Nat) (l1 : Option Nat) (l2 : Int) (h : IH) :
 lp d 6 (n + 1) 0 [some (iR (some l0)), some (iR l1), some (iI l2), none, none, none] [] h =
 (xB l1 fun a2 =>
 xgI h a2 19 7 fun x1 =>
 lp d 6 n 7 [some (iR (some l0)), some (iR l1), some (iI l2), some (iI (wr (x1 - 1))), none, none] [] h) := rfl
set_option maxRecDepth 20000 in
set_option maxHeartbeats 4000000 in
theorem e_Ju_lastTold_7 (d n : Nat) (l0 : Nat) (l1 : Option Nat) (l2 : Int) (l3 : Int) (h : IH) :
 lp d 6 (n + 1) 7 [some (iR (some l0)), some (iR l1), some (iI l2), some (iI l3), none, none] [] h =
 ((if l3 < 0 then
 some (oI (-2147483648), h)
 else
 xB l1 fun a2 =>
 xgR h a2 19 2 fun x1 =>
 xB x1 fun a4 =>
 xaI h a4 l3 fun x3 =>
 (if x3 = l2 then
 xgR h l0 10 1 fun x5 =>
 xgR h l0 10 0 fun x6 =>
 xB x5 fun a7 =>
 xck h a7 16 <|
 kI (rn d 73 [iR (some a7), iR l1, iI (wr ((wr (l3 * 4)) + 3)), iR x6] h) fun x9 h8 =>
 (if x9 = 1 then
 xgR h8 l0 10 1 fun x10 =>
 xgR h8 l0 10 0 fun x11 =>
 xB x10 fun a12 =>
 xck h8 a12 16 <|
 kI (rn d 73 [iR (some a12), iR l1, iI (wr (l3 * 4)), iR x11] h8) fun x14 h13 =>
 (if x14 = (-2147483648) then
 lp d 6 n 7 [some (iR (some l0)), some (iR l1), some (iI l2), some (iI (wr (l3 + (-1)))), none, none] [] h13
 else
 some (oI x14, h13))
 else
 lp d 6 n 7 [some (iR (some l0)), some (iR l1), some (iI l2), some (iI (wr (l3 + (-1)))), none, none] [] h8)
 else
 lp d 6 n 7 [some (iR (some l0)), some (iR l1), some (iI l2), some (iI (wr (l3 + (-1)))), none, none] [] h))) := rfl
-- TownSundays$Judge.nearest(II)I
theorem r_Ju_nearest (d : Nat) (l0 : Int) (l1 : Int) (h : IH) : rn (d + 1) 7 [iI l0, iI l1] h = lp d 7 (999999 + 1) 0 [some (iI l0), some (iI l1)] [] h := rn_lp rfl rfl
set_option maxRecDepth 20000 in
set_option maxHeartbeats 4000000 in
theorem e_Ju_nearest (d n : Nat) (l0 : Int) (l1 : Int) (h : IH) :
 lp d 7 (n + 1) 0 [some (iI l0), some (iI l1)] [] h =
 (some (oI (imax 0 (imin l0 l1)), h)) := rfl
-- TownSundays$Land.init()V
theorem r_La_init (d : Nat) (l0 : Nat) (h : IH) : rn (d + 1) 8 [iR (some l0)] h = lp d 8 (999999 + 1) 0 [some (iR (some l0)), none] [] h := rn_lp rfl rfl
set_option maxRecDepth 20000 in
set_option maxHeartbeats 4000000 in
theorem e_La_init (d n : Nat) (l0 : Nat) (h : IH) :
 lp d 8 (n + 1) 0 [some (iR (some l0)), none] [] h =
 (xpI h l0 11 0 0 fun h1 =>
 xnA h1 0 7 fun a2 h3 =>
 xpR h3 l0 11 1 (some a2) fun h4 =>
 xnA h4 0 7 fun a5 h6 =>
 xpR h6 l0 11 2 (some a5) fun h7 =>
 xnA h7 0 7 fun a8 h9 =>
 xpR h9 l0 11 3 (some a8) fun h10 =>
 xnA h10 0 7 fun a11 h12 =>
 xpR h12 l0 11 4 (some a11) fun h13 =>
 xnA h13 0 49 fun a14 h15 =>
 xpR h15 l0 11 5 (some a14) fun h16 =>
 xnA h16 0 49 fun a17 h18 =>
 xpR h18 l0 11 6 (some a17) fun h19 =>
 xnA h19 0 7 fun a20 h21 =>
 xpR h21 l0 11 7 (some a20) fun h22 =>
 xle h22 1 fun x23 =>
 xnA h22 0 x23 fun a24 h25 =>
 xpR h25 l0 11 8 (some a24) fun h26 =>
 xnA h26 0 6 fun a27 h28 =>
 xpR h28 l0 11 9 (some a27) fun h29 =>
 xnA h29 0 6 fun a30 h31 =>
 xpR h31 l0 11 10 (some a30) fun h32 =>
 xpI h32 l0 11 11 0 fun h33 =>
 xnA h33 4 6 fun a34 h35 =>
 xpR h35 l0 11 12 (some a34) fun h36 =>
 xpI h36 l0 11 13 0 fun h37 =>
 xpI h37 l0 11 14 (-1) fun h38 =>
 lp d 8 n 117 [some (iR (some l0)), some (iI 0)] [] h38) := rfl
set_option maxRecDepth 20000 in
set_option maxHeartbeats 4000000 in
theorem e_La_init_117 (d n : Nat) (l0 : Nat) (l1 : Int) (h : IH) :
 lp d 8 (n + 1) 117 [some (iR (some l0)), some (iI l1)] [] h =
 ((if l1 < 7 then
 xgR h l0 11 1 fun x1 =>
 xB x1 fun a3 =>
 xsI h a3 l1 l1 fun h2 =>
 xgR h2 l0 11 2 fun x4 =>
 xB x4 fun a6 =>
 xsI h2 a6 l1 l1 fun h5 =>
 lp d 8 n 117 [some (iR (some l0)), some (iI (wr (l1 + 1)))] [] h5
 else
 xgR h l0 11 8 fun x7 =>
 xB x7 fun a9 =>
 xsI h a9 1 1 fun h8 =>
 some (o0, h8))) := rfl
-- TownSundays$Land.copyFrom(LTownSundays$Land;)V
theorem r_La_copyFrom (d : Nat) (l0 : Nat) (l1 : Option Nat) (h : IH) : rn (d + 1) 9 [iR (some l0), iR l1] h = lp d 9 (999999 + 1) 0 [some (iR (some l0)), some (iR l1), none] [] h := rn_lp rfl rfl
set_option maxRecDepth 20000 in
set_option maxHeartbeats 4000000 in
theorem e_La_copyFrom (d n : Nat) (l0 : Nat) (l1 : Option Nat) (h : IH) :
 lp d 9 (n + 1) 0 [some (iR (some l0)), some (iR l1), none] [] h =
 (xB l1 fun a2 =>
 xgI h a2 11 0 fun x1 =>
 xpI h l0 11 0 x1 fun h3 =>
 xB l1 fun a5 =>
 xgR h3 a5 11 1 fun x4 =>
 xgR h3 l0 11 1 fun x6 =>
 xcp h3 x4 0 x6 0 7 fun h7 =>
 xB l1 fun a9 =>
 xgR h7 a9 11 2 fun x8 =>
 xgR h7 l0 11 2 fun x10 =>
 xcp h7 x8 0 x10 0 7 fun h11 =>
 xB l1 fun a13 =>
 xgR h11 a13 11 3 fun x12 =>
 xgR h11 l0 11 3 fun x14 =>
 xcp h11 x12 0 x14 0 7 fun h15 =>
 xB l1 fun a17 =>
 xgR h15 a17 11 4 fun x16 =>
 xgR h15 l0 11 4 fun x18 =>
 xcp h15 x16 0 x18 0 7 fun h19 =>
 xB l1 fun a21 =>
 xgR h19 a21 11 5 fun x20 =>
 xgR h19 l0 11 5 fun x22 =>
 xcp h19 x20 0 x22 0 49 fun h23 =>
 xB l1 fun a25 =>
 xgR h23 a25 11 6 fun x24 =>
 xgR h23 l0 11 6 fun x26 =>
 xcp h23 x24 0 x26 0 49 fun h27 =>
 xB l1 fun a29 =>
 xgR h27 a29 11 7 fun x28 =>
 xgR h27 l0 11 7 fun x30 =>
 xcp h27 x28 0 x30 0 7 fun h31 =>
 lp d 9 n 113 [some (iR (some l0)), some (iR l1), none] [] h31) := rfl
set_option maxRecDepth 20000 in
set_option maxHeartbeats 4000000 in
theorem e_La_copyFrom_113 (d n : Nat) (l0 : Nat) (l1 : Option Nat) (h : IH) :
 lp d 9 (n + 1) 113 [some (iR (some l0)), some (iR l1), none] [] h =
 (xB l1 fun a2 =>
 xgR h a2 11 8 fun x1 =>
 xgR h l0 11 8 fun x3 =>
 xle h 1 fun x4 =>
 xcp h x1 0 x3 0 x4 fun h5 =>
 xB l1 fun a7 =>
 xgR h5 a7 11 9 fun x6 =>
 xgR h5 l0 11 9 fun x8 =>
 xcp h5 x6 0 x8 0 6 fun h9 =>
 xB l1 fun a11 =>
 xgR h9 a11 11 10 fun x10 =>
 xgR h9 l0 11 10 fun x12 =>
 xcp h9 x10 0 x12 0 6 fun h13 =>
 xB l1 fun a15 =>
 xgI h13 a15 11 11 fun x14 =>
 xpI h13 l0 11 11 x14 fun h16 =>
 lp d 9 n 170 [some (iR (some l0)), some (iR l1), some (iI 0)] [] h16) := rfl
set_option maxRecDepth 20000 in
set_option maxHeartbeats 4000000 in
theorem e_La_copyFrom_170 (d n : Nat) (l0 : Nat) (l1 : Option Nat) (l2 : Int) (h : IH) :
 lp d 9 (n + 1) 170 [some (iR (some l0)), some (iR l1), some (iI l2)] [] h =
 ((if l2 < 6 then
 xgR h l0 11 12 fun x1 =>
 xB l1 fun a3 =>
 xgR h a3 11 12 fun x2 =>
 xB x2 fun a5 =>
 xaR h a5 l2 fun x4 =>
 xB x1 fun a7 =>
 xsR h a7 l2 x4 fun h6 =>
 lp d 9 n 170 [some (iR (some l0)), some (iR l1), some (iI (wr (l2 + 1)))] [] h6
 else
 xB l1 fun a9 =>
 xgI h a9 11 13 fun x8 =>
 xpI h l0 11 13 x8 fun h10 =>
 xB l1 fun a12 =>
 xgI h10 a12 11 14 fun x11 =>
 xpI h10 l0 11 14 x11 fun h13 =>
 some (o0, h13))) := rfl
-- TownSundays$Land.isTown(I)Z
theorem r_La_isTown (d : Nat) (l0 : Nat) (l1 : Int) (h : IH) : rn (d + 1) 10 [iR (some l0), iI l1] h = lp d 10 (999999 + 1) 0 [some (iR (some l0)), some (iI l1)] [] h := rn_lp rfl rfl
set_option maxRecDepth 20000 in
set_option maxHeartbeats 4000000 in
theorem e_La_isTown (d n : Nat) (l0 : Nat) (l1 : Int) (h : IH) :
 lp d 10 (n + 1) 0 [some (iR (some l0)), some (iI l1)] [] h =
 ((if l1 < 0 then
 xZ 0 h
 else
 xgI h l0 11 0 fun x1 =>
 (if l1 < x1 then
 xZ 1 h
 else
 xZ 0 h))) := rfl
-- TownSundays$Land.isLaw(I)Z
theorem r_La_isLaw (d : Nat) (l0 : Nat) (l1 : Int) (h : IH) : rn (d + 1) 11 [iR (some l0), iI l1] h = lp d 11 (999999 + 1) 0 [some (iR (some l0)), some (iI l1)] [] h := rn_lp rfl rfl
set_option maxRecDepth 20000 in
set_option maxHeartbeats 4000000 in
theorem e_La_isLaw (d n : Nat) (l0 : Nat) (l1 : Int) (h : IH) :
 lp d 11 (n + 1) 0 [some (iR (some l0)), some (iI l1)] [] h =
 ((if l1 < 0 then
 xZ 0 h
 else
 xgI h l0 11 13 fun x1 =>
 (if l1 < x1 then
 xZ 1 h
 else
 xZ 0 h))) := rfl
-- TownSundays$Land.lawInForce()LTownSundays$Text;
theorem r_La_lawInForce (d : Nat) (l0 : Nat) (h : IH) : rn (d + 1) 12 [iR (some l0)] h = lp d 12 (999999 + 1) 0 [some (iR (some l0))] [] h := rn_lp rfl rfl
set_option maxRecDepth 20000 in
set_option maxHeartbeats 4000000 in
theorem e_La_lawInForce (d n : Nat) (l0 : Nat) (h : IH) :
 lp d 12 (n + 1) 0 [some (iR (some l0))] [] h =
 (xgI h l0 11 14 fun x1 =>
 xck h l0 11 <|
 kI (rn d 11 [iR (some l0), iI x1] h) fun x3 h2 =>
 (if x3 = 0 then
 some (oR none, h2)
 else
 xgR h2 l0 11 12 fun x4 =>
 xgI h2 l0 11 14 fun x5 =>
 xB x4 fun a7 =>
 xaR h2 a7 x5 fun x6 =>
 some (oR x6, h2))) := rfl
-- TownSundays$Land.milesBetween(II)I
theorem r_La_milesBetween (d : Nat) (l0 : Nat) (l1 : Int) (l2 : Int) (h : IH) : rn (d + 1) 13 [iR (some l0), iI l1, iI l2] h = lp d 13 (999999 + 1) 0 [some (iR (some l0)), some (iI l1), some (iI l2)] [] h := rn_lp rfl rfl
set_option maxRecDepth 20000 in
set_option maxHeartbeats 4000000 in
theorem e_La_milesBetween (d n : Nat) (l0 : Nat) (l1 : Int) (l2 : Int) (h : IH) :
 lp d 13 (n + 1) 0 [some (iR (some l0)), some (iI l1), some (iI l2)] [] h =
 (xgR h l0 11 6 fun x1 =>
 xB x1 fun a3 =>
 xaI h a3 (wr ((wr (l1 * 7)) + l2)) fun x2 =>
 some (oI x2, h)) := rfl
-- TownSundays$Land.closedBetween(II)I
theorem r_La_closedBetween (d : Nat) (l0 : Nat) (l1 : Int) (l2 : Int) (h : IH) : rn (d + 1) 14 [iR (some l0), iI l1, iI l2] h = lp d 14 (999999 + 1) 0 [some (iR (some l0)), some (iI l1), some (iI l2)] [] h := rn_lp rfl rfl
set_option maxRecDepth 20000 in
set_option maxHeartbeats 4000000 in
theorem e_La_closedBetween (d n : Nat) (l0 : Nat) (l1 : Int) (l2 : Int) (h : IH) :
 lp d 14 (n + 1) 0 [some (iR (some l0)), some (iI l1), some (iI l2)] [] h =
 (xgR h l0 11 7 fun x1 =>
 xB x1 fun a3 =>
 xaI h a3 l1 fun x2 =>
 some (oI (iand (ishr x2 l2) 1), h)) := rfl
-- TownSundays$Land.setRoad(III)V
theorem r_La_setRoad (d : Nat) (l0 : Nat) (l1 : Int) (l2 : Int) (l3 : Int) (h : IH) : rn (d + 1) 15 [iR (some l0), iI l1, iI l2, iI l3] h = lp d 15 (999999 + 1) 0 [some (iR (some l0)), some (iI l1), some (iI l2), some (iI l3)] [] h := rn_lp rfl rfl
set_option maxRecDepth 20000 in
set_option maxHeartbeats 4000000 in
theorem e_La_setRoad (d n : Nat) (l0 : Nat) (l1 : Int) (l2 : Int) (l3 : Int) (h : IH) :
 lp d 15 (n + 1) 0 [some (iR (some l0)), some (iI l1), some (iI l2), some (iI l3)] [] h =
 (xgR h l0 11 6 fun x1 =>
 xB x1 fun a3 =>
 xsI h a3 (wr ((wr (l1 * 7)) + l2)) l3 fun h2 =>
 xgR h2 l0 11 6 fun x4 =>
 xB x4 fun a6 =>
 xsI h2 a6 (wr ((wr (l2 * 7)) + l1)) l3 fun h5 =>
 xgR h5 l0 11 7 fun x7 =>
 xB x7 fun a9 =>
 xaI h5 a9 l1 fun x8 =>
 xB x7 fun a11 =>
 xsI h5 a11 l1 (iand x8 (ixor (ishl 1 l2) (-1))) fun h10 =>
 xgR h10 l0 11 7 fun x12 =>
 xB x12 fun a14 =>
 xaI h10 a14 l2 fun x13 =>
 xB x12 fun a16 =>
 xsI h10 a16 l2 (iand x13 (ixor (ishl 1 l1) (-1))) fun h15 =>
 some (o0, h15)) := rfl
-- TownSundays$Land.turnClosed(II)V
theorem r_La_turnClosed (d : Nat) (l0 : Nat) (l1 : Int) (l2 : Int) (h : IH) : rn (d + 1) 16 [iR (some l0), iI l1, iI l2] h = lp d 16 (999999 + 1) 0 [some (iR (some l0)), some (iI l1), some (iI l2)] [] h := rn_lp rfl rfl
set_option maxRecDepth 20000 in
set_option maxHeartbeats 4000000 in
theorem e_La_turnClosed (d n : Nat) (l0 : Nat) (l1 : Int) (l2 : Int) (h : IH) :
 lp d 16 (n + 1) 0 [some (iR (some l0)), some (iI l1), some (iI l2)] [] h =
 (xgR h l0 11 7 fun x1 =>
 xB x1 fun a3 =>
 xaI h a3 l1 fun x2 =>
 xB x1 fun a5 =>
 xsI h a5 l1 (ixor x2 (ishl 1 l2)) fun h4 =>
 xgR h4 l0 11 7 fun x6 =>
 xB x6 fun a8 =>
 xaI h4 a8 l2 fun x7 =>
 xB x6 fun a10 =>
 xsI h4 a10 l2 (ixor x7 (ishl 1 l1)) fun h9 =>
 some (o0, h9)) := rfl
-- TownSundays$Land.put(II)V
theorem r_La_put (d : Nat) (l0 : Nat) (l1 : Int) (l2 : Int) (h : IH) : rn (d + 1) 17 [iR (some l0), iI l1, iI l2] h = lp d 17 (999999 + 1) 0 [some (iR (some l0)), some (iI l1), some (iI l2)] [] h := rn_lp rfl rfl
set_option maxRecDepth 20000 in
set_option maxHeartbeats 4000000 in
theorem e_La_put (d n : Nat) (l0 : Nat) (l1 : Int) (l2 : Int) (h : IH) :
 lp d 17 (n + 1) 0 [some (iR (some l0)), some (iI l1), some (iI l2)] [] h =
 (xgR h l0 11 1 fun x1 =>
 xB x1 fun a3 =>
 xsI h a3 l1 l2 fun h2 =>
 xgR h2 l0 11 2 fun x4 =>
 xB x4 fun a6 =>
 xsI h2 a6 l2 l1 fun h5 =>
 some (o0, h5)) := rfl
-- TownSundays$Land.countHome()I
theorem r_La_countHome (d : Nat) (l0 : Nat) (h : IH) : rn (d + 1) 18 [iR (some l0)] h = lp d 18 (999999 + 1) 0 [some (iR (some l0)), none, none] [] h := rn_lp rfl rfl
set_option maxRecDepth 20000 in
set_option maxHeartbeats 4000000 in
theorem e_La_countHome (d n : Nat) (l0 : Nat) (h : IH) :
 lp d 18 (n + 1) 0 [some (iR (some l0)), none, none] [] h =
 (lp d 18 n 4 [some (iR (some l0)), some (iI 0), some (iI 0)] [] h) := rfl
set_option maxRecDepth 20000 in
set_option maxHeartbeats 4000000 in
theorem e_La_countHome_4 (d n : Nat) (l0 : Nat) (l1 : Int) (l2 : Int) (h : IH) :
 lp d 18 (n + 1) 4 [some (iR (some l0)), some (iI l1), some (iI l2)] [] h =
 (xgI h l0 11 0 fun x1 =>
 (if l2 < x1 then
 xgR h l0 11 2 fun x2 =>
 xB x2 fun a4 =>
 xaI h a4 l2 fun x3 =>
 (if x3 = l2 then
 lp d 18 n 4 [some (iR (some l0)), some (iI (wr (l1 + 1))), some (iI (wr (l2 + 1)))] [] h
 else
 lp d 18 n 4 [some (iR (some l0)), some (iI l1), some (iI (wr (l2 + 1)))] [] h)
 else
 some (oI l1, h))) := rfl
-- TownSundays$Land.countRoads(Z)I
theorem r_La_countRoads (d : Nat) (l0 : Nat) (l1 : Int) (h : IH) : rn (d + 1) 19 [iR (some l0), iI l1] h = lp d 19 (999999 + 1) 0 [some (iR (some l0)), some (iI l1), none, none, none, none] [] h := rn_lp rfl rfl
set_option maxRecDepth 20000 in
set_option maxHeartbeats 4000000 in
theorem e_La_countRoads (d n : Nat) (l0 : Nat) (l1 : Int) (h : IH) :
 lp d 19 (n + 1) 0 [some (iR (some l0)), some (iI l1), none, none, none, none] [] h =
 (lp d 19 n 4 [some (iR (some l0)), some (iI l1), some (iI 0), some (iI 0), none, none] [] h) := rfl
set_option maxRecDepth 20000 in
set_option maxHeartbeats 4000000 in
theorem e_La_countRoads_4 (d n : Nat) (l0 : Nat) (l1 : Int) (l2 : Int) (l3 : Int) (h : IH) :
 lp d 19 (n + 1) 4 [some (iR (some l0)), some (iI l1), some (iI l2), some (iI l3), none, none] [] h =
 (xgI h l0 11 0 fun x1 =>
 (if l3 < x1 then
 lp d 19 n 17 [some (iR (some l0)), some (iI l1), some (iI l2), some (iI l3), some (iI (wr (l3 + 1))), none] [] h
 else
 some (oI l2, h))) := rfl
set_option maxRecDepth 20000 in
set_option maxHeartbeats 4000000 in
theorem e_La_countRoads_17 (d n : Nat) (l0 : Nat) (l1 : Int) (l2 : Int) (l3 : Int) (l4 : Int) (h : IH) :
 lp d 19 (n + 1) 17 [some (iR (some l0)), some (iI l1), some (iI l2), some (iI l3), some (iI l4), none] [] h =
 (xgI h l0 11 0 fun x1 =>
 (if l4 < x1 then
 (if l1 = 0 then
 (if 1 = 0 then
 lp d 19 n 17 [some (iR (some l0)), some (iI l1), some (iI l2), some (iI l3), some (iI (wr (l4 + 1))), none] [] h
 else
 xck h l0 11 <|
 kI (rn d 13 [iR (some l0), iI l3, iI l4] h) fun x3 h2 =>
 (if x3 ≤ 0 then
 lp d 19 n 17 [some (iR (some l0)), some (iI l1), some (iI l2), some (iI l3), some (iI (wr (l4 + 1))), none] [] h2
 else
 lp d 19 n 17 [some (iR (some l0)), some (iI l1), some (iI (wr (l2 + 1))), some (iI l3), some (iI (wr (l4 + 1))), none] [] h2))
 else
 xck h l0 11 <|
 kI (rn d 14 [iR (some l0), iI l3, iI l4] h) fun x5 h4 =>
 (if x5 = 1 then
 (if 1 = 0 then
 lp d 19 n 17 [some (iR (some l0)), some (iI l1), some (iI l2), some (iI l3), some (iI (wr (l4 + 1))), none] [] h4
 else
 xck h4 l0 11 <|
 kI (rn d 13 [iR (some l0), iI l3, iI l4] h4) fun x7 h6 =>
 (if x7 ≤ 0 then
 lp d 19 n 17 [some (iR (some l0)), some (iI l1), some (iI l2), some (iI l3), some (iI (wr (l4 + 1))), none] [] h6
 else
 lp d 19 n 17 [some (iR (some l0)), some (iI l1), some (iI (wr (l2 + 1))), some (iI l3), some (iI (wr (l4 + 1))), none] [] h6))
 else
 (if 0 = 0 then
 lp d 19 n 17 [some (iR (some l0)), some (iI l1), some (iI l2), some (iI l3), some (iI (wr (l4 + 1))), none] [] h4
 else
 xck h4 l0 11 <|
 kI (rn d 13 [iR (some l0), iI l3, iI l4] h4) fun x9 h8 =>
 (if x9 ≤ 0 then
 lp d 19 n 17 [some (iR (some l0)), some (iI l1), some (iI l2), some (iI l3), some (iI (wr (l4 + 1))), none] [] h8
 else
 lp d 19 n 17 [some (iR (some l0)), some (iI l1), some (iI (wr (l2 + 1))), some (iI l3), some (iI (wr (l4 + 1))), none] [] h8))))
 else
 lp d 19 n 4 [some (iR (some l0)), some (iI l1), some (iI l2), some (iI (wr (l3 + 1))), none, none] [] h)) := rfl
-- TownSundays$Mover.init()V
theorem r_Mo_init (d : Nat) (l0 : Nat) (h : IH) : rn (d + 1) 20 [iR (some l0)] h = lp d 20 (999999 + 1) 0 [some (iR (some l0))] [] h := rn_lp rfl rfl
set_option maxRecDepth 20000 in
set_option maxHeartbeats 4000000 in
theorem e_Mo_init (d n : Nat) (l0 : Nat) (h : IH) :
 lp d 20 (n + 1) 0 [some (iR (some l0))] [] h =
 (xnO h 0 fun a1 h2 =>
 kV (rn d 0 [iR (some a1)] h2) fun h3 =>
 xpR h3 l0 12 0 (some a1) fun h4 =>
 xnA h4 0 7 fun a5 h6 =>
 xpR h6 l0 12 1 (some a5) fun h7 =>
 some (o0, h7)) := rfl
-- TownSundays$Mover.trySwap(LTownSundays$Land;II)I
theorem r_Mo_trySwap (d : Nat) (l0 : Nat) (l1 : Option Nat) (l2 : Int) (l3 : Int) (h : IH) : rn (d + 1) 21 [iR (some l0), iR l1, iI l2, iI l3] h = lp d 21 (999999 + 1) 0 [some (iR (some l0)), some (iR l1), some (iI l2), some (iI l3), none, none] [] h := rn_lp rfl rfl
set_option maxRecDepth 20000 in
set_option maxHeartbeats 4000000 in
theorem e_Mo_trySwap (d n : Nat) (l0 : Nat) (l1 : Option Nat) (l2 : Int) (l3 : Int) (h : IH) :
 lp d 21 (n + 1) 0 [some (iR (some l0)), some (iR l1), some (iI l2), some (iI l3), none, none] [] h =
 ((if l2 = l3 then
 some (oI (-1), h)
 else
 xB l1 fun a1 =>
 xck h a1 11 <|
 kI (rn d 10 [iR (some a1), iI l2] h) fun x3 h2 =>
 (if x3 = 0 then
 some (oI (-2), h2)
 else
 xB l1 fun a4 =>
 xck h2 a4 11 <|
 kI (rn d 10 [iR (some a4), iI l3] h2) fun x6 h5 =>
 (if x6 = 0 then
 some (oI (-2), h5)
 else
 xB l1 fun a8 =>
 xgR h5 a8 11 1 fun x7 =>
 xB x7 fun a10 =>
 xaI h5 a10 l2 fun x9 =>
 xB l1 fun a12 =>
 xgR h5 a12 11 1 fun x11 =>
 xB x11 fun a14 =>
 xaI h5 a14 l3 fun x13 =>
 xgR h5 l0 12 0 fun x15 =>
 xB x15 fun a16 =>
 xck h5 a16 10 <|
 kI (rn d 3 [iR (some a16), iR l1, iI x9, iI l2, iI l3] h5) fun x18 h17 =>
 (if x18 = 0 then
 some (oI (-3), h17)
 else
 xgR h17 l0 12 0 fun x19 =>
 xB x19 fun a20 =>
 xck h17 a20 10 <|
 kI (rn d 3 [iR (some a20), iR l1, iI x13, iI l3, iI l2] h17) fun x22 h21 =>
 (if x22 = 0 then
 some (oI (-3), h21)
 else
 xB l1 fun a23 =>
 xck h21 a23 11 <|
 kV (rn d 17 [iR (some a23), iI l2, iI x13] h21) fun h24 =>
 xB l1 fun a25 =>
 xck h24 a25 11 <|
 kV (rn d 17 [iR (some a25), iI l3, iI x9] h24) fun h26 =>
 some (oI x13, h26))))))) := rfl
-- TownSundays$Mover.tryRound(LTownSundays$Land;III)I
theorem r_Mo_tryRound (d : Nat) (l0 : Nat) (l1 : Option Nat) (l2 : Int) (l3 : Int) (l4 : Int) (h : IH) : rn (d + 1) 22 [iR (some l0), iR l1, iI l2, iI l3, iI l4] h = lp d 22 (999999 + 1) 0 [some (iR (some l0)), some (iR l1), some (iI l2), some (iI l3), some (iI l4), none, none, none] [] h := rn_lp rfl rfl
set_option maxRecDepth 20000 in
set_option maxHeartbeats 4000000 in
theorem e_Mo_tryRound (d n : Nat) (l0 : Nat) (l1 : Option Nat) (l2 : Int) (l3 : Int) (l4 : Int) (h : IH) :
 lp d 22 (n + 1) 0 [some (iR (some l0)), some (iR l1), some (iI l2), some (iI l3), some (iI l4), none, none, none] [] h =
 ((if l2 = l3 then
 some (oI (-1), h)
 else
 (if l3 = l4 then
 some (oI (-1), h)
 else
 (if l2 = l4 then
 some (oI (-1), h)
 else
 xB l1 fun a1 =>
 xck h a1 11 <|
 kI (rn d 10 [iR (some a1), iI l2] h) fun x3 h2 =>
 (if x3 = 0 then
 some (oI (-2), h2)
 else
 xB l1 fun a4 =>
 xck h2 a4 11 <|
 kI (rn d 10 [iR (some a4), iI l3] h2) fun x6 h5 =>
 (if x6 = 0 then
 some (oI (-2), h5)
 else
 xB l1 fun a7 =>
 xck h5 a7 11 <|
 kI (rn d 10 [iR (some a7), iI l4] h5) fun x9 h8 =>
 (if x9 = 0 then
 some (oI (-2), h8)
 else
 lp d 22 n 47 [some (iR (some l0)), some (iR l1), some (iI l2), some (iI l3), some (iI l4), none, none, none] [] h8))))))) := rfl
set_option maxRecDepth 20000 in
set_option maxHeartbeats 4000000 in
theorem e_Mo_tryRound_47 (d n : Nat) (l0 : Nat) (l1 : Option Nat) (l2 : Int) (l3 : Int) (l4 : Int) (h : IH) :
 lp d 22 (n + 1) 47 [some (iR (some l0)), some (iR l1), some (iI l2), some (iI l3), some (iI l4), none, none, none] [] h =
 (xB l1 fun a2 =>
 xgR h a2 11 1 fun x1 =>
 xB x1 fun a4 =>
 xaI h a4 l2 fun x3 =>
 xB l1 fun a6 =>
 xgR h a6 11 1 fun x5 =>
 xB x5 fun a8 =>
 xaI h a8 l3 fun x7 =>
 xB l1 fun a10 =>
 xgR h a10 11 1 fun x9 =>
 xB x9 fun a12 =>
 xaI h a12 l4 fun x11 =>
 xgR h l0 12 0 fun x13 =>
 xB x13 fun a14 =>
 xck h a14 10 <|
 kI (rn d 3 [iR (some a14), iR l1, iI x3, iI l2, iI l3] h) fun x16 h15 =>
 (if x16 = 0 then
 some (oI (-3), h15)
 else
 lp d 22 n 88 [some (iR (some l0)), some (iR l1), some (iI l2), some (iI l3), some (iI l4), some (iI x3), some (iI x7), some (iI x11)] [iR (some l0)] h15)) := rfl
set_option maxRecDepth 20000 in
set_option maxHeartbeats 4000000 in
theorem e_Mo_tryRound_88 (d n : Nat) (l0 : Nat) (l1 : Option Nat) (l2 : Int) (l3 : Int) (l4 : Int) (l5 : Int) (l6 : Int) (l7 : Int) (s0 : Nat) (h : IH) :
 lp d 22 (n + 1) 88 [some (iR (some l0)), some (iR l1), some (iI l2), some (iI l3), some (iI l4), some (iI l5), some (iI l6), some (iI l7)] [iR (some s0)] h =
 (xgR h s0 12 0 fun x1 =>
 xB x1 fun a2 =>
 xck h a2 10 <|
 kI (rn d 3 [iR (some a2), iR l1, iI l6, iI l3, iI l4] h) fun x4 h3 =>
 (if x4 = 0 then
 some (oI (-3), h3)
 else
 xgR h3 l0 12 0 fun x5 =>
 xB x5 fun a6 =>
 xck h3 a6 10 <|
 kI (rn d 3 [iR (some a6), iR l1, iI l7, iI l4, iI l2] h3) fun x8 h7 =>
 (if x8 = 0 then
 some (oI (-3), h7)
 else
 xB l1 fun a9 =>
 xck h7 a9 11 <|
 kV (rn d 17 [iR (some a9), iI l3, iI l5] h7) fun h10 =>
 xB l1 fun a11 =>
 xck h10 a11 11 <|
 kV (rn d 17 [iR (some a11), iI l4, iI l6] h10) fun h12 =>
 lp d 22 n 137 [none, some (iR l1), some (iI l2), none, none, none, none, some (iI l7)] [] h12))) := rfl
set_option maxRecDepth 20000 in
set_option maxHeartbeats 4000000 in
theorem e_Mo_tryRound_137 (d n : Nat) (l1 : Option Nat) (l2 : Int) (l7 : Int) (h : IH) :
 lp d 22 (n + 1) 137 [none, some (iR l1), some (iI l2), none, none, none, none, some (iI l7)] [] h =
 (xB l1 fun a1 =>
 xck h a1 11 <|
 kV (rn d 17 [iR (some a1), iI l2, iI l7] h) fun h2 =>
 some (oI l7, h2)) := rfl
-- TownSundays$Mover.tryClose(LTownSundays$Land;II)I
theorem r_Mo_tryClose (d : Nat) (l0 : Nat) (l1 : Option Nat) (l2 : Int) (l3 : Int) (h : IH) : rn (d + 1) 23 [iR (some l0), iR l1, iI l2, iI l3] h = lp d 23 (999999 + 1) 0 [some (iR (some l0)), some (iR l1), some (iI l2), some (iI l3)] [] h := rn_lp rfl rfl
set_option maxRecDepth 20000 in
set_option maxHeartbeats 4000000 in
theorem e_Mo_tryClose (d n : Nat) (l0 : Nat) (l1 : Option Nat) (l2 : Int) (l3 : Int) (h : IH) :
 lp d 23 (n + 1) 0 [some (iR (some l0)), some (iR l1), some (iI l2), some (iI l3)] [] h =
 ((if l2 = l3 then
 some (oI (-1), h)
 else
 xB l1 fun a1 =>
 xck h a1 11 <|
 kI (rn d 10 [iR (some a1), iI l2] h) fun x3 h2 =>
 (if x3 = 0 then
 some (oI (-2), h2)
 else
 xB l1 fun a4 =>
 xck h2 a4 11 <|
 kI (rn d 10 [iR (some a4), iI l3] h2) fun x6 h5 =>
 (if x6 = 0 then
 some (oI (-2), h5)
 else
 xB l1 fun a7 =>
 xck h5 a7 11 <|
 kI (rn d 13 [iR (some a7), iI l2, iI l3] h5) fun x9 h8 =>
 (if x9 = 0 then
 some (oI (-3), h8)
 else
 xB l1 fun a10 =>
 xck h8 a10 11 <|
 kV (rn d 16 [iR (some a10), iI l2, iI l3] h8) fun h11 =>
 xB l1 fun a12 =>
 xck h11 a12 11 <|
 kI (rn d 14 [iR (some a12), iI l2, iI l3] h11) fun x14 h13 =>
 some (oI x14, h13)))))) := rfl
-- TownSundays$Mover.tryPass(LTownSundays$Land;)I
theorem r_Mo_tryPass (d : Nat) (l0 : Nat) (l1 : Option Nat) (h : IH) : rn (d + 1) 24 [iR (some l0), iR l1] h = lp d 24 (999999 + 1) 0 [some (iR (some l0)), some (iR l1), none, none, none, none] [] h := rn_lp rfl rfl
set_option maxRecDepth 20000 in
set_option maxHeartbeats 4000000 in
theorem e_Mo_tryPass (d n : Nat) (l0 : Nat) (l1 : Option Nat) (h : IH) :
 lp d 24 (n + 1) 0 [some (iR (some l0)), some (iR l1), none, none, none, none] [] h =
 (xB l1 fun a2 =>
 xgR h a2 11 8 fun x1 =>
 xB x1 fun a4 =>
 xaI h a4 0 fun x3 =>
 xaI h 1 0 fun x5 =>
 (if x3 < x5 then
 xB l1 fun a6 =>
 xck h a6 11 <|
 kR (rn d 12 [iR (some a6)] h) fun x8 h7 =>
 lp d 24 n 27 [some (iR (some l0)), some (iR l1), some (iR x8), some (iI 0), some (iI 0), none] [] h7
 else
 some (oI (-3), h))) := rfl
set_option maxRecDepth 20000 in
set_option maxHeartbeats 4000000 in
theorem e_Mo_tryPass_27 (d n : Nat) (l0 : Nat) (l1 : Option Nat) (l2 : Option Nat) (l3 : Int) (l4 : Int) (h : IH) :
 lp d 24 (n + 1) 27 [some (iR (some l0)), some (iR l1), some (iR l2), some (iI l3), some (iI l4), none] [] h =
 (xB l1 fun a2 =>
 xgI h a2 11 0 fun x1 =>
 (if l4 < x1 then
 xB l1 fun a4 =>
 xgR h a4 11 1 fun x3 =>
 xB x3 fun a6 =>
 xaI h a6 l4 fun x5 =>
 xgR h l0 12 0 fun x7 =>
 xB x7 fun a8 =>
 xck h a8 10 <|
 kI (rn d 1 [iR (some a8), iR l1, iR l2, iI l4, iI x5] h) fun x10 h9 =>
 xgR h9 l0 12 1 fun x11 =>
 xgR h9 l0 12 0 fun x12 =>
 xB x12 fun a13 =>
 xck h9 a13 10 <|
 kI (rn d 2 [iR (some a13), iR l1, iI x5] h9) fun x15 h14 =>
 xB x11 fun a17 =>
 xsI h14 a17 x5 x15 fun h16 =>
 lp d 24 n 27 [some (iR (some l0)), some (iR l1), some (iR l2), some (iI (wr (l3 + x10))), some (iI (wr (l4 + 1))), none] [] h16
 else
 lp d 24 n 87 [some (iR (some l0)), some (iR l1), none, some (iI l3), some (iI 0), none] [] h)) := rfl
set_option maxRecDepth 20000 in
set_option maxHeartbeats 4000000 in
theorem e_Mo_tryPass_87 (d n : Nat) (l0 : Nat) (l1 : Option Nat) (l3 : Int) (l4 : Int) (h : IH) :
 lp d 24 (n + 1) 87 [some (iR (some l0)), some (iR l1), none, some (iI l3), some (iI l4), none] [] h =
 (xB l1 fun a2 =>
 xgI h a2 11 0 fun x1 =>
 (if l4 < x1 then
 xB l1 fun a4 =>
 xgR h a4 11 1 fun x3 =>
 xB x3 fun a6 =>
 xaI h a6 l4 fun x5 =>
 xB l1 fun a8 =>
 xgR h a8 11 5 fun x7 =>
 xB l1 fun a10 =>
 xgR h a10 11 5 fun x9 =>
 xB x9 fun a12 =>
 xaI h a12 (wr ((wr (l4 * 7)) + x5)) fun x11 =>
 xB x7 fun a14 =>
 xsI h a14 (wr ((wr (l4 * 7)) + x5)) (imin (wr (x11 + 1)) 99) fun h13 =>
 xB l1 fun a16 =>
 xgR h13 a16 11 3 fun x15 =>
 xgR h13 l0 12 1 fun x17 =>
 xB x17 fun a19 =>
 xaI h13 a19 l4 fun x18 =>
 xB x15 fun a21 =>
 xsI h13 a21 l4 x18 fun h20 =>
 lp d 24 n 87 [some (iR (some l0)), some (iR l1), none, some (iI l3), some (iI (wr (l4 + 1))), none] [] h20
 else
 xB l1 fun a23 =>
 xgR h a23 11 8 fun x22 =>
 xB x22 fun a25 =>
 xaI h a25 0 fun x24 =>
 xB x22 fun a27 =>
 xsI h a27 0 (wr (x24 + 1)) fun h26 =>
 some (oI l3, h26))) := rfl
-- TownSundays$Mover.drawYear(LTownSundays$Land;I)I
theorem r_Mo_drawYear (d : Nat) (l0 : Nat) (l1 : Option Nat) (l2 : Int) (h : IH) : rn (d + 1) 25 [iR (some l0), iR l1, iI l2] h = lp d 25 (999999 + 1) 0 [some (iR (some l0)), some (iR l1), some (iI l2), none, none, none, none, none, none, none, none] [] h := rn_lp rfl rfl
set_option maxRecDepth 20000 in
set_option maxHeartbeats 4000000 in
theorem e_Mo_drawYear (d n : Nat) (l0 : Nat) (l1 : Option Nat) (l2 : Int) (h : IH) :
 lp d 25 (n + 1) 0 [some (iR (some l0)), some (iR l1), some (iI l2), none, none, none, none, none, none, none, none] [] h =
 (kI (rn d 26 [iI l2] h) fun x2 h1 =>
 kI (rn d 26 [iI x2] h1) fun x4 h3 =>
 kI (rn d 26 [iI x4] h3) fun x6 h5 =>
 kI (rn d 26 [iI x6] h5) fun x8 h7 =>
 xB l1 fun a10 =>
 xgI h7 a10 11 0 fun x9 =>
 (if x9 = 0 then
 some (oI x8, h7)
 else
 xB l1 fun a12 =>
 xgI h7 a12 11 0 fun x11 =>
 xmI x2 x11 fun x13 =>
 xB l1 fun a15 =>
 xgI h7 a15 11 0 fun x14 =>
 xmI x4 x14 fun x16 =>
 lp d 25 n 52 [some (iR (some l0)), some (iR l1), none, none, none, some (iI x6), some (iI x8), some (iI x13), some (iI x16), none, none] [] h7)) := rfl
set_option maxRecDepth 20000 in
set_option maxHeartbeats 4000000 in
theorem e_Mo_drawYear_52 (d n : Nat) (l0 : Nat) (l1 : Option Nat) (l5 : Int) (l6 : Int) (l7 : Int) (l8 : Int) (h : IH) :
 lp d 25 (n + 1) 52 [some (iR (some l0)), some (iR l1), none, none, none, some (iI l5), some (iI l6), some (iI l7), some (iI l8), none, none] [] h =
 (xB l1 fun a2 =>
 xgI h a2 11 0 fun x1 =>
 xmI l5 x1 fun x3 =>
 xmI l6 4 fun x4 =>
 (if x4 < 2 then
 xck h l0 12 <|
 kI (rn d 21 [iR (some l0), iR l1, iI l7, iI l8] h) fun x6 h5 =>
 lp d 25 n 104 [some (iR (some l0)), some (iR l1), none, none, none, none, some (iI l6), none, none, none, none] [] h5
 else
 (if x4 = 2 then
 xck h l0 12 <|
 kI (rn d 22 [iR (some l0), iR l1, iI l7, iI l8, iI x3] h) fun x8 h7 =>
 lp d 25 n 104 [some (iR (some l0)), some (iR l1), none, none, none, none, some (iI l6), none, none, none, none] [] h7
 else
 lp d 25 n 104 [some (iR (some l0)), some (iR l1), none, none, none, none, some (iI l6), none, none, none, none] [] h))) := rfl
set_option maxRecDepth 20000 in
set_option maxHeartbeats 4000000 in
theorem e_Mo_drawYear_104 (d n : Nat) (l0 : Nat) (l1 : Option Nat) (l6 : Int) (h : IH) :
 lp d 25 (n + 1) 104 [some (iR (some l0)), some (iR l1), none, none, none, none, some (iI l6), none, none, none, none] [] h =
 (xck h l0 12 <|
 kI (rn d 24 [iR (some l0), iR l1] h) fun x2 h1 =>
 some (oI l6, h1)) := rfl
-- TownSundays$Mover.nextDrawn(I)I
theorem r_Mo_nextDrawn (d : Nat) (l0 : Int) (h : IH) : rn (d + 1) 26 [iI l0] h = lp d 26 (999999 + 1) 0 [some (iI l0)] [] h := rn_lp rfl rfl
set_option maxRecDepth 20000 in
set_option maxHeartbeats 4000000 in
theorem e_Mo_nextDrawn (d n : Nat) (l0 : Int) (h : IH) :
 lp d 26 (n + 1) 0 [some (iI l0)] [] h =
 (xmI (wr ((wr (l0 * 1103)) + 12345)) 1000003 fun x1 =>
 some (oI x1, h)) := rfl
-- TownSundays$Paper.init()V
theorem r_Pa_init (d : Nat) (l0 : Nat) (h : IH) : rn (d + 1) 27 [iR (some l0)] h = lp d 27 (999999 + 1) 0 [some (iR (some l0))] [] h := rn_lp rfl rfl
set_option maxRecDepth 20000 in
set_option maxHeartbeats 4000000 in
theorem e_Pa_init (d n : Nat) (l0 : Nat) (h : IH) :
 lp d 27 (n + 1) 0 [some (iR (some l0))] [] h =
 (xnA h 0 49 fun a1 h2 =>
 xpR h2 l0 13 0 (some a1) fun h3 =>
 xnA h3 0 7 fun a4 h5 =>
 xpR h5 l0 13 1 (some a4) fun h6 =>
 xnA h6 0 49 fun a7 h8 =>
 xpR h8 l0 13 2 (some a7) fun h9 =>
 xnA h9 0 128 fun a10 h11 =>
 xpR h11 l0 13 3 (some a10) fun h12 =>
 xnA h12 0 128 fun a13 h14 =>
 xpR h14 l0 13 4 (some a13) fun h15 =>
 xnA h15 0 7 fun a16 h17 =>
 xpR h17 l0 13 5 (some a16) fun h18 =>
 some (o0, h18)) := rfl
-- TownSundays$Paper.fillLikings(LTownSundays$Land;LTownSundays$Judge;)V
theorem r_Pa_fillLikings (d : Nat) (l0 : Nat) (l1 : Option Nat) (l2 : Option Nat) (h : IH) : rn (d + 1) 28 [iR (some l0), iR l1, iR l2] h = lp d 28 (999999 + 1) 0 [some (iR (some l0)), some (iR l1), some (iR l2), none, none, none] [] h := rn_lp rfl rfl
set_option maxRecDepth 20000 in
set_option maxHeartbeats 4000000 in
theorem e_Pa_fillLikings (d n : Nat) (l0 : Nat) (l1 : Option Nat) (l2 : Option Nat) (h : IH) :
 lp d 28 (n + 1) 0 [some (iR (some l0)), some (iR l1), some (iR l2), none, none, none] [] h =
 (xB l1 fun a1 =>
 xck h a1 11 <|
 kR (rn d 12 [iR (some a1)] h) fun x3 h2 =>
 lp d 28 n 8 [some (iR (some l0)), some (iR l1), some (iR l2), some (iR x3), some (iI 0), none] [] h2) := rfl
set_option maxRecDepth 20000 in
set_option maxHeartbeats 4000000 in
theorem e_Pa_fillLikings_8 (d n : Nat) (l0 : Nat) (l1 : Option Nat) (l2 : Option Nat) (l3 : Option Nat) (l4 : Int) (h : IH) :
 lp d 28 (n + 1) 8 [some (iR (some l0)), some (iR l1), some (iR l2), some (iR l3), some (iI l4), none] [] h =
 (xB l1 fun a2 =>
 xgI h a2 11 0 fun x1 =>
 (if l4 < x1 then
 lp d 28 n 20 [some (iR (some l0)), some (iR l1), some (iR l2), some (iR l3), some (iI l4), some (iI 0)] [] h
 else
 some (o0, h))) := rfl
set_option maxRecDepth 20000 in
set_option maxHeartbeats 4000000 in
theorem e_Pa_fillLikings_20 (d n : Nat) (l0 : Nat) (l1 : Option Nat) (l2 : Option Nat) (l3 : Option Nat) (l4 : Int) (l5 : Int) (h : IH) :
 lp d 28 (n + 1) 20 [some (iR (some l0)), some (iR l1), some (iR l2), some (iR l3), some (iI l4), some (iI l5)] [] h =
 (xB l1 fun a2 =>
 xgI h a2 11 0 fun x1 =>
 (if l5 < x1 then
 xgR h l0 13 0 fun x3 =>
 xB l2 fun a4 =>
 xck h a4 10 <|
 kI (rn d 1 [iR (some a4), iR l1, iR l3, iI l4, iI l5] h) fun x6 h5 =>
 xB x3 fun a8 =>
 xsI h5 a8 (wr ((wr (l4 * 7)) + l5)) x6 fun h7 =>
 lp d 28 n 20 [some (iR (some l0)), some (iR l1), some (iR l2), some (iR l3), some (iI l4), some (iI (wr (l5 + 1)))] [] h7
 else
 lp d 28 n 8 [some (iR (some l0)), some (iR l1), some (iR l2), some (iR l3), some (iI (wr (l4 + 1))), none] [] h)) := rfl
-- TownSundays$Paper.fillMay(LTownSundays$Land;LTownSundays$Judge;)V
theorem r_Pa_fillMay (d : Nat) (l0 : Nat) (l1 : Option Nat) (l2 : Option Nat) (h : IH) : rn (d + 1) 29 [iR (some l0), iR l1, iR l2] h = lp d 29 (999999 + 1) 0 [some (iR (some l0)), some (iR l1), some (iR l2), none, none] [] h := rn_lp rfl rfl
set_option maxRecDepth 20000 in
set_option maxHeartbeats 4000000 in
theorem e_Pa_fillMay (d n : Nat) (l0 : Nat) (l1 : Option Nat) (l2 : Option Nat) (h : IH) :
 lp d 29 (n + 1) 0 [some (iR (some l0)), some (iR l1), some (iR l2), none, none] [] h =
 (lp d 29 n 2 [some (iR (some l0)), some (iR l1), some (iR l2), some (iI 0), none] [] h) := rfl
set_option maxRecDepth 20000 in
set_option maxHeartbeats 4000000 in
theorem e_Pa_fillMay_2 (d n : Nat) (l0 : Nat) (l1 : Option Nat) (l2 : Option Nat) (l3 : Int) (h : IH) :
 lp d 29 (n + 1) 2 [some (iR (some l0)), some (iR l1), some (iR l2), some (iI l3), none] [] h =
 (xB l1 fun a2 =>
 xgI h a2 11 0 fun x1 =>
 (if l3 < x1 then
 xgR h l0 13 1 fun x3 =>
 xB x3 fun a5 =>
 xsI h a5 l3 0 fun h4 =>
 lp d 29 n 20 [some (iR (some l0)), some (iR l1), some (iR l2), some (iI l3), some (iI 0)] [] h4
 else
 some (o0, h))) := rfl
set_option maxRecDepth 20000 in
set_option maxHeartbeats 4000000 in
theorem e_Pa_fillMay_20 (d n : Nat) (l0 : Nat) (l1 : Option Nat) (l2 : Option Nat) (l3 : Int) (l4 : Int) (h : IH) :
 lp d 29 (n + 1) 20 [some (iR (some l0)), some (iR l1), some (iR l2), some (iI l3), some (iI l4)] [] h =
 (xB l1 fun a2 =>
 xgI h a2 11 0 fun x1 =>
 (if l4 < x1 then
 xB l2 fun a3 =>
 xck h a3 10 <|
 kI (rn d 4 [iR (some a3), iR l1, iI l3, iI l4] h) fun x5 h4 =>
 (if x5 = 0 then
 lp d 29 n 20 [some (iR (some l0)), some (iR l1), some (iR l2), some (iI l3), some (iI (wr (l4 + 1)))] [] h4
 else
 xgR h4 l0 13 1 fun x6 =>
 xB x6 fun a8 =>
 xaI h4 a8 l3 fun x7 =>
 xB x6 fun a10 =>
 xsI h4 a10 l3 (ior x7 (ishl 1 l4)) fun h9 =>
 lp d 29 n 20 [some (iR (some l0)), some (iR l1), some (iR l2), some (iI l3), some (iI (wr (l4 + 1)))] [] h9)
 else
 lp d 29 n 2 [some (iR (some l0)), some (iR l1), some (iR l2), some (iI (wr (l3 + 1))), none] [] h)) := rfl
-- TownSundays$Paper.weighLikings(LTownSundays$Land;LTownSundays$Judge;)V
theorem r_Pa_weighLikings (d : Nat) (l0 : Nat) (l1 : Option Nat) (l2 : Option Nat) (h : IH) : rn (d + 1) 30 [iR (some l0), iR l1, iR l2] h = lp d 30 (999999 + 1) 0 [some (iR (some l0)), some (iR l1), some (iR l2), none, none, none] [] h := rn_lp rfl rfl
set_option maxRecDepth 20000 in
set_option maxHeartbeats 4000000 in
theorem e_Pa_weighLikings (d n : Nat) (l0 : Nat) (l1 : Option Nat) (l2 : Option Nat) (h : IH) :
 lp d 30 (n + 1) 0 [some (iR (some l0)), some (iR l1), some (iR l2), none, none, none] [] h =
 (xck h l0 13 <|
 kV (rn d 28 [iR (some l0), iR l1, iR l2] h) fun h1 =>
 xck h1 l0 13 <|
 kV (rn d 29 [iR (some l0), iR l1, iR l2] h1) fun h2 =>
 lp d 30 n 14 [some (iR (some l0)), some (iR l1), none, some (iI 0), none, none] [] h2) := rfl
set_option maxRecDepth 20000 in
set_option maxHeartbeats 4000000 in
theorem e_Pa_weighLikings_14 (d n : Nat) (l0 : Nat) (l1 : Option Nat) (l3 : Int) (h : IH) :
 lp d 30 (n + 1) 14 [some (iR (some l0)), some (iR l1), none, some (iI l3), none, none] [] h =
 (xB l1 fun a2 =>
 xgI h a2 11 0 fun x1 =>
 (if l3 < x1 then
 lp d 30 n 25 [some (iR (some l0)), some (iR l1), none, some (iI l3), some (iI 0), none] [] h
 else
 some (o0, h))) := rfl
set_option maxRecDepth 20000 in
set_option maxHeartbeats 4000000 in
theorem e_Pa_weighLikings_25 (d n : Nat) (l0 : Nat) (l1 : Option Nat) (l3 : Int) (l4 : Int) (h : IH) :
 lp d 30 (n + 1) 25 [some (iR (some l0)), some (iR l1), none, some (iI l3), some (iI l4), none] [] h =
 (xB l1 fun a2 =>
 xgI h a2 11 0 fun x1 =>
 (if l4 < x1 then
 xgR h l0 13 2 fun x3 =>
 xgR h l0 13 1 fun x4 =>
 xB x4 fun a6 =>
 xaI h a6 l3 fun x5 =>
 (if (iand (ishr x5 l4) 1) = 1 then
 xgR h l0 13 0 fun x7 =>
 xB x7 fun a9 =>
 xaI h a9 (wr ((wr (l3 * 7)) + l4)) fun x8 =>
 xB x3 fun a11 =>
 xsI h a11 (wr ((wr (l3 * 7)) + l4)) x8 fun h10 =>
 lp d 30 n 25 [some (iR (some l0)), some (iR l1), none, some (iI l3), some (iI (wr (l4 + 1))), none] [] h10
 else
 xB x3 fun a13 =>
 xsI h a13 (wr ((wr (l3 * 7)) + l4)) (-2147483648) fun h12 =>
 lp d 30 n 25 [some (iR (some l0)), some (iR l1), none, some (iI l3), some (iI (wr (l4 + 1))), none] [] h12)
 else
 lp d 30 n 14 [some (iR (some l0)), some (iR l1), none, some (iI (wr (l3 + 1))), none, none] [] h)) := rfl
-- TownSundays$Paper.weighMiles(LTownSundays$Land;LTownSundays$Judge;)V
theorem r_Pa_weighMiles (d : Nat) (l0 : Nat) (l1 : Option Nat) (l2 : Option Nat) (h : IH) : rn (d + 1) 31 [iR (some l0), iR l1, iR l2] h = lp d 31 (999999 + 1) 0 [some (iR (some l0)), some (iR l1), some (iR l2), none, none, none, none] [] h := rn_lp rfl rfl
set_option maxRecDepth 20000 in
set_option maxHeartbeats 4000000 in
theorem e_Pa_weighMiles (d n : Nat) (l0 : Nat) (l1 : Option Nat) (l2 : Option Nat) (h : IH) :
 lp d 31 (n + 1) 0 [some (iR (some l0)), some (iR l1), some (iR l2), none, none, none, none] [] h =
 (xck h l0 13 <|
 kV (rn d 29 [iR (some l0), iR l1, iR l2] h) fun h1 =>
 lp d 31 n 8 [some (iR (some l0)), some (iR l1), none, some (iI 0), none, none, none] [] h1) := rfl
set_option maxRecDepth 20000 in
set_option maxHeartbeats 4000000 in
theorem e_Pa_weighMiles_8 (d n : Nat) (l0 : Nat) (l1 : Option Nat) (l3 : Int) (h : IH) :
 lp d 31 (n + 1) 8 [some (iR (some l0)), some (iR l1), none, some (iI l3), none, none, none] [] h =
 (xB l1 fun a2 =>
 xgI h a2 11 0 fun x1 =>
 (if l3 < x1 then
 lp d 31 n 19 [some (iR (some l0)), some (iR l1), none, some (iI l3), some (iI 0), none, none] [] h
 else
 some (o0, h))) := rfl
set_option maxRecDepth 20000 in
set_option maxHeartbeats 4000000 in
theorem e_Pa_weighMiles_19 (d n : Nat) (l0 : Nat) (l1 : Option Nat) (l3 : Int) (l4 : Int) (h : IH) :
 lp d 31 (n + 1) 19 [some (iR (some l0)), some (iR l1), none, some (iI l3), some (iI l4), none, none] [] h =
 (xB l1 fun a2 =>
 xgI h a2 11 0 fun x1 =>
 (if l4 < x1 then
 xgR h l0 13 1 fun x3 =>
 xB x3 fun a5 =>
 xaI h a5 l3 fun x4 =>
 (if (iand (ishr x4 l4) 1) = 1 then
 xB l1 fun a7 =>
 xgR h a7 11 5 fun x6 =>
 xB x6 fun a9 =>
 xaI h a9 (wr ((wr (l3 * 7)) + l4)) fun x8 =>
 (if x8 = 0 then
 xgR h l0 13 2 fun x10 =>
 (if 1 = 0 then
 xB x10 fun a12 =>
 xsI h a12 (wr ((wr (l3 * 7)) + l4)) (-2147483648) fun h11 =>
 lp d 31 n 19 [some (iR (some l0)), some (iR l1), none, some (iI l3), some (iI (wr (l4 + 1))), none, none] [] h11
 else
 xB l1 fun a14 =>
 xgR h a14 11 2 fun x13 =>
 xB x13 fun a16 =>
 xaI h a16 l4 fun x15 =>
 xB l1 fun a17 =>
 xck h a17 11 <|
 kI (rn d 13 [iR (some a17), iI x15, iI l3] h) fun x19 h18 =>
 xB x10 fun a21 =>
 xsI h18 a21 (wr ((wr (l3 * 7)) + l4)) (wr (-x19)) fun h20 =>
 lp d 31 n 19 [some (iR (some l0)), some (iR l1), none, some (iI l3), some (iI (wr (l4 + 1))), none, none] [] h20)
 else
 xgR h l0 13 2 fun x22 =>
 (if 0 = 0 then
 xB x22 fun a24 =>
 xsI h a24 (wr ((wr (l3 * 7)) + l4)) (-2147483648) fun h23 =>
 lp d 31 n 19 [some (iR (some l0)), some (iR l1), none, some (iI l3), some (iI (wr (l4 + 1))), none, none] [] h23
 else
 xB l1 fun a26 =>
 xgR h a26 11 2 fun x25 =>
 xB x25 fun a28 =>
 xaI h a28 l4 fun x27 =>
 xB l1 fun a29 =>
 xck h a29 11 <|
 kI (rn d 13 [iR (some a29), iI x27, iI l3] h) fun x31 h30 =>
 xB x22 fun a33 =>
 xsI h30 a33 (wr ((wr (l3 * 7)) + l4)) (wr (-x31)) fun h32 =>
 lp d 31 n 19 [some (iR (some l0)), some (iR l1), none, some (iI l3), some (iI (wr (l4 + 1))), none, none] [] h32))
 else
 xgR h l0 13 2 fun x34 =>
 (if 0 = 0 then
 xB x34 fun a36 =>
 xsI h a36 (wr ((wr (l3 * 7)) + l4)) (-2147483648) fun h35 =>
 lp d 31 n 19 [some (iR (some l0)), some (iR l1), none, some (iI l3), some (iI (wr (l4 + 1))), none, none] [] h35
 else
 xB l1 fun a38 =>
 xgR h a38 11 2 fun x37 =>
 xB x37 fun a40 =>
 xaI h a40 l4 fun x39 =>
 xB l1 fun a41 =>
 xck h a41 11 <|
 kI (rn d 13 [iR (some a41), iI x39, iI l3] h) fun x43 h42 =>
 xB x34 fun a45 =>
 xsI h42 a45 (wr ((wr (l3 * 7)) + l4)) (wr (-x43)) fun h44 =>
 lp d 31 n 19 [some (iR (some l0)), some (iR l1), none, some (iI l3), some (iI (wr (l4 + 1))), none, none] [] h44))
 else
 lp d 31 n 8 [some (iR (some l0)), some (iR l1), none, some (iI (wr (l3 + 1))), none, none, none] [] h)) := rfl
-- TownSundays$Paper.countWays(I)I
theorem r_Pa_countWays (d : Nat) (l0 : Nat) (l1 : Int) (h : IH) : rn (d + 1) 32 [iR (some l0), iI l1] h = lp d 32 (999999 + 1) 0 [some (iR (some l0)), some (iI l1), none, none] [] h := rn_lp rfl rfl
set_option maxRecDepth 20000 in
set_option maxHeartbeats 4000000 in
theorem e_Pa_countWays (d n : Nat) (l0 : Nat) (l1 : Int) (h : IH) :
 lp d 32 (n + 1) 0 [some (iR (some l0)), some (iI l1), none, none] [] h =
 (xgR h l0 13 3 fun x1 =>
 xB x1 fun a3 =>
 xsI h a3 (wr ((ishl 1 l1) - 1)) 0 fun h2 =>
 xgR h2 l0 13 4 fun x4 =>
 xB x4 fun a6 =>
 xsI h2 a6 (wr ((ishl 1 l1) - 1)) 1 fun h5 =>
 lp d 32 n 24 [some (iR (some l0)), some (iI l1), none, some (iI (wr ((wr ((ishl 1 l1) - 1)) - 1)))] [] h5) := rfl
set_option maxRecDepth 20000 in
set_option maxHeartbeats 4000000 in
theorem e_Pa_countWays_24 (d n : Nat) (l0 : Nat) (l1 : Int) (l3 : Int) (h : IH) :
 lp d 32 (n + 1) 24 [some (iR (some l0)), some (iI l1), none, some (iI l3)] [] h =
 ((if l3 < 0 then
 xgR h l0 13 4 fun x1 =>
 xB x1 fun a3 =>
 xaI h a3 0 fun x2 =>
 some (oI x2, h)
 else
 xck h l0 13 <|
 kV (rn d 33 [iR (some l0), iI l3, iI l1] h) fun h4 =>
 lp d 32 n 24 [some (iR (some l0)), some (iI l1), none, some (iI (wr (l3 + (-1))))] [] h4)) := rfl
-- TownSundays$Paper.weighRest(II)V
theorem r_Pa_weighRest (d : Nat) (l0 : Nat) (l1 : Int) (l2 : Int) (h : IH) : rn (d + 1) 33 [iR (some l0), iI l1, iI l2] h = lp d 33 (999999 + 1) 0 [some (iR (some l0)), some (iI l1), some (iI l2), none, none, none, none, none] [] h := rn_lp rfl rfl
set_option maxRecDepth 20000 in
set_option maxHeartbeats 4000000 in
theorem e_Pa_weighRest (d n : Nat) (l0 : Nat) (l1 : Int) (l2 : Int) (h : IH) :
 lp d 33 (n + 1) 0 [some (iR (some l0)), some (iI l1), some (iI l2), none, none, none, none, none] [] h =
 (kI (rn d 291 [iI l1] h) fun x2 h1 =>
 lp d 33 n 15 [some (iR (some l0)), some (iI l1), some (iI l2), some (iI x2), some (iI (-2147483648)), some (iI 0), some (iI 0), none] [] h1) := rfl
set_option maxRecDepth 20000 in
set_option maxHeartbeats 4000000 in
theorem e_Pa_weighRest_15 (d n : Nat) (l0 : Nat) (l1 : Int) (l2 : Int) (l3 : Int) (l4 : Int) (l5 : Int) (l6 : Int) (h : IH) :
 lp d 33 (n + 1) 15 [some (iR (some l0)), some (iI l1), some (iI l2), some (iI l3), some (iI l4), some (iI l5), some (iI l6), none] [] h =
 ((if l6 < l2 then
 xck h l0 13 <|
 kI (rn d 34 [iR (some l0), iI l1, iI l3, iI l6] h) fun x2 h1 =>
 (if x2 = (-2147483648) then
 lp d 33 n 63 [some (iR (some l0)), some (iI l1), some (iI l2), some (iI l3), some (iI l4), some (iI l5), some (iI l6), none] [] h1
 else
 xgR h1 l0 13 4 fun x3 =>
 xB x3 fun a5 =>
 xaI h1 a5 (ior l1 (ishl 1 l6)) fun x4 =>
 lp d 33 n 63 [some (iR (some l0)), some (iI l1), some (iI l2), some (iI l3), some (iI (imax l4 x2)), some (iI (wr (l5 + x4))), some (iI l6), none] [] h1)
 else
 xgR h l0 13 3 fun x6 =>
 xB x6 fun a8 =>
 xsI h a8 l1 l4 fun h7 =>
 xgR h7 l0 13 4 fun x9 =>
 xB x9 fun a11 =>
 xsI h7 a11 l1 l5 fun h10 =>
 some (o0, h10))) := rfl
set_option maxRecDepth 20000 in
set_option maxHeartbeats 4000000 in
theorem e_Pa_weighRest_63 (d n : Nat) (l0 : Nat) (l1 : Int) (l2 : Int) (l3 : Int) (l4 : Int) (l5 : Int) (l6 : Int) (h : IH) :
 lp d 33 (n + 1) 63 [some (iR (some l0)), some (iI l1), some (iI l2), some (iI l3), some (iI l4), some (iI l5), some (iI l6), none] [] h =
 (lp d 33 n 15 [some (iR (some l0)), some (iI l1), some (iI l2), some (iI l3), some (iI l4), some (iI l5), some (iI (wr (l6 + 1))), none] [] h) := rfl
-- TownSundays$Paper.worthThrough(III)I
theorem r_Pa_worthThrough (d : Nat) (l0 : Nat) (l1 : Int) (l2 : Int) (l3 : Int) (h : IH) : rn (d + 1) 34 [iR (some l0), iI l1, iI l2, iI l3] h = lp d 34 (999999 + 1) 0 [some (iR (some l0)), some (iI l1), some (iI l2), some (iI l3), none, none] [] h := rn_lp rfl rfl
set_option maxRecDepth 20000 in
set_option maxHeartbeats 4000000 in
theorem e_Pa_worthThrough (d n : Nat) (l0 : Nat) (l1 : Int) (l2 : Int) (l3 : Int) (h : IH) :
 lp d 34 (n + 1) 0 [some (iR (some l0)), some (iI l1), some (iI l2), some (iI l3), none, none] [] h =
 (xgR h l0 13 2 fun x1 =>
 xB x1 fun a3 =>
 xaI h a3 (wr ((wr (l2 * 7)) + l3)) fun x2 =>
 (if (ior l1 (ishl 1 l3)) = l1 then
 some (oI (-2147483648), h)
 else
 (if x2 = (-2147483648) then
 some (oI (-2147483648), h)
 else
 xgR h l0 13 4 fun x4 =>
 xB x4 fun a6 =>
 xaI h a6 (ior l1 (ishl 1 l3)) fun x5 =>
 (if x5 = 0 then
 some (oI (-2147483648), h)
 else
 xgR h l0 13 3 fun x7 =>
 xB x7 fun a9 =>
 xaI h a9 (ior l1 (ishl 1 l3)) fun x8 =>
 some (oI (wr (x2 + x8)), h))))) := rfl
-- TownSundays$Paper.arranged(II)I
theorem r_Pa_arranged (d : Nat) (l0 : Nat) (l1 : Int) (l2 : Int) (h : IH) : rn (d + 1) 35 [iR (some l0), iI l1, iI l2] h = lp d 35 (999999 + 1) 0 [some (iR (some l0)), some (iI l1), some (iI l2), none, none, none] [] h := rn_lp rfl rfl
set_option maxRecDepth 20000 in
set_option maxHeartbeats 4000000 in
theorem e_Pa_arranged (d n : Nat) (l0 : Nat) (l1 : Int) (l2 : Int) (h : IH) :
 lp d 35 (n + 1) 0 [some (iR (some l0)), some (iI l1), some (iI l2), none, none, none] [] h =
 (xck h l0 13 <|
 kI (rn d 32 [iR (some l0), iI l1] h) fun x2 h1 =>
 (if x2 = 0 then
 some (oI (-2147483648), h1)
 else
 (if l2 = (-1) then
 xgR h1 l0 13 3 fun x3 =>
 xB x3 fun a5 =>
 xaI h1 a5 0 fun x4 =>
 some (oI x4, h1)
 else
 lp d 35 n 32 [some (iR (some l0)), some (iI l1), some (iI l2), some (iI 0), some (iI (-2147483648)), some (iI 0)] [] h1))) := rfl
set_option maxRecDepth 20000 in
set_option maxHeartbeats 4000000 in
theorem e_Pa_arranged_32 (d n : Nat) (l0 : Nat) (l1 : Int) (l2 : Int) (l3 : Int) (l4 : Int) (l5 : Int) (h : IH) :
 lp d 35 (n + 1) 32 [some (iR (some l0)), some (iI l1), some (iI l2), some (iI l3), some (iI l4), some (iI l5)] [] h =
 ((if l5 ≤ l2 then
 (if l5 < l1 then
 xck h l0 13 <|
 kI (rn d 36 [iR (some l0), iI l3, iI l5, iI l1] h) fun x2 h1 =>
 lp d 35 n 32 [some (iR (some l0)), some (iI l1), some (iI l2), some (iI (ior l3 (ishl 1 x2))), some (iI x2), some (iI (wr (l5 + 1)))] [] h1
 else
 some (oI l4, h))
 else
 some (oI l4, h))) := rfl
-- TownSundays$Paper.firstOfBest(III)I
theorem r_Pa_firstOfBest (d : Nat) (l0 : Nat) (l1 : Int) (l2 : Int) (l3 : Int) (h : IH) : rn (d + 1) 36 [iR (some l0), iI l1, iI l2, iI l3] h = lp d 36 (999999 + 1) 0 [some (iR (some l0)), some (iI l1), some (iI l2), some (iI l3), none] [] h := rn_lp rfl rfl
set_option maxRecDepth 20000 in
set_option maxHeartbeats 4000000 in
theorem e_Pa_firstOfBest (d n : Nat) (l0 : Nat) (l1 : Int) (l2 : Int) (l3 : Int) (h : IH) :
 lp d 36 (n + 1) 0 [some (iR (some l0)), some (iI l1), some (iI l2), some (iI l3), none] [] h =
 (lp d 36 n 3 [some (iR (some l0)), some (iI l1), some (iI l2), some (iI l3), some (iI 0)] [] h) := rfl
set_option maxRecDepth 20000 in
set_option maxHeartbeats 4000000 in
theorem e_Pa_firstOfBest_3 (d n : Nat) (l0 : Nat) (l1 : Int) (l2 : Int) (l3 : Int) (l4 : Int) (h : IH) :
 lp d 36 (n + 1) 3 [some (iR (some l0)), some (iI l1), some (iI l2), some (iI l3), some (iI l4)] [] h =
 ((if l4 < (wr (l3 - 1)) then
 xck h l0 13 <|
 kI (rn d 34 [iR (some l0), iI l1, iI l2, iI l4] h) fun x2 h1 =>
 xgR h1 l0 13 3 fun x3 =>
 xB x3 fun a5 =>
 xaI h1 a5 l1 fun x4 =>
 (if x2 = x4 then
 some (oI l4, h1)
 else
 lp d 36 n 3 [some (iR (some l0)), some (iI l1), some (iI l2), some (iI l3), some (iI (wr (l4 + 1)))] [] h1)
 else
 some (oI l4, h))) := rfl
-- TownSundays$Paper.marketed(LTownSundays$Land;I)I
theorem r_Pa_marketed (d : Nat) (l0 : Nat) (l1 : Option Nat) (l2 : Int) (h : IH) : rn (d + 1) 37 [iR (some l0), iR l1, iI l2] h = lp d 37 (999999 + 1) 0 [some (iR (some l0)), some (iR l1), some (iI l2), none, none] [] h := rn_lp rfl rfl
set_option maxRecDepth 20000 in
set_option maxHeartbeats 4000000 in
theorem e_Pa_marketed (d n : Nat) (l0 : Nat) (l1 : Option Nat) (l2 : Int) (h : IH) :
 lp d 37 (n + 1) 0 [some (iR (some l0)), some (iR l1), some (iI l2), none, none] [] h =
 (xB l1 fun a2 =>
 xgI h a2 11 0 fun x1 =>
 lp d 37 n 12 [some (iR (some l0)), some (iR l1), some (iI l2), some (iI (wr ((ishl 1 x1) - 1))), some (iI 0)] [] h) := rfl
set_option maxRecDepth 20000 in
set_option maxHeartbeats 4000000 in
theorem e_Pa_marketed_12 (d n : Nat) (l0 : Nat) (l1 : Option Nat) (l2 : Int) (l3 : Int) (l4 : Int) (h : IH) :
 lp d 37 (n + 1) 12 [some (iR (some l0)), some (iR l1), some (iI l2), some (iI l3), some (iI l4)] [] h =
 (xB l1 fun a2 =>
 xgI h a2 11 0 fun x1 =>
 (if l4 < x1 then
 (if (iand (ishr l3 l2) 1) = 1 then
 xck h l0 13 <|
 kV (rn d 38 [iR (some l0), iR l1, iI l3] h) fun h3 =>
 xck h3 l0 13 <|
 kI (rn d 40 [iR (some l0), iR l1, iI l3] h3) fun x5 h4 =>
 lp d 37 n 12 [some (iR (some l0)), some (iR l1), some (iI l2), some (iI (iand l3 (ixor x5 (-1)))), some (iI (wr (l4 + 1)))] [] h4
 else
 xgR h l0 13 5 fun x6 =>
 xB x6 fun a8 =>
 xaI h a8 l2 fun x7 =>
 some (oI x7, h))
 else
 xgR h l0 13 5 fun x9 =>
 xB x9 fun a11 =>
 xaI h a11 l2 fun x10 =>
 some (oI x10, h))) := rfl
-- TownSundays$Paper.setWishes(LTownSundays$Land;I)V
theorem r_Pa_setWishes (d : Nat) (l0 : Nat) (l1 : Option Nat) (l2 : Int) (h : IH) : rn (d + 1) 38 [iR (some l0), iR l1, iI l2] h = lp d 38 (999999 + 1) 0 [some (iR (some l0)), some (iR l1), some (iI l2), none] [] h := rn_lp rfl rfl
set_option maxRecDepth 20000 in
set_option maxHeartbeats 4000000 in
theorem e_Pa_setWishes (d n : Nat) (l0 : Nat) (l1 : Option Nat) (l2 : Int) (h : IH) :
 lp d 38 (n + 1) 0 [some (iR (some l0)), some (iR l1), some (iI l2), none] [] h =
 (lp d 38 n 2 [some (iR (some l0)), some (iR l1), some (iI l2), some (iI 0)] [] h) := rfl
set_option maxRecDepth 20000 in
set_option maxHeartbeats 4000000 in
theorem e_Pa_setWishes_2 (d n : Nat) (l0 : Nat) (l1 : Option Nat) (l2 : Int) (l3 : Int) (h : IH) :
 lp d 38 (n + 1) 2 [some (iR (some l0)), some (iR l1), some (iI l2), some (iI l3)] [] h =
 (xB l1 fun a2 =>
 xgI h a2 11 0 fun x1 =>
 (if l3 < x1 then
 (if (iand (ishr l2 l3) 1) = 1 then
 xgR h l0 13 5 fun x3 =>
 xck h l0 13 <|
 kI (rn d 39 [iR (some l0), iR l1, iI l3, iI l2] h) fun x5 h4 =>
 xB x3 fun a7 =>
 xsI h4 a7 l3 x5 fun h6 =>
 lp d 38 n 2 [some (iR (some l0)), some (iR l1), some (iI l2), some (iI (wr (l3 + 1)))] [] h6
 else
 lp d 38 n 2 [some (iR (some l0)), some (iR l1), some (iI l2), some (iI (wr (l3 + 1)))] [] h)
 else
 some (o0, h))) := rfl
-- TownSundays$Paper.wishOf(LTownSundays$Land;II)I
theorem r_Pa_wishOf (d : Nat) (l0 : Nat) (l1 : Option Nat) (l2 : Int) (l3 : Int) (h : IH) : rn (d + 1) 39 [iR (some l0), iR l1, iI l2, iI l3] h = lp d 39 (999999 + 1) 0 [some (iR (some l0)), some (iR l1), some (iI l2), some (iI l3), none, none, none, none, none] [] h := rn_lp rfl rfl
set_option maxRecDepth 20000 in
set_option maxHeartbeats 4000000 in
theorem e_Pa_wishOf (d n : Nat) (l0 : Nat) (l1 : Option Nat) (l2 : Int) (l3 : Int) (h : IH) :
 lp d 39 (n + 1) 0 [some (iR (some l0)), some (iR l1), some (iI l2), some (iI l3), none, none, none, none, none] [] h =
 (lp d 39 n 9 [some (iR (some l0)), some (iR l1), some (iI l2), some (iI l3), some (iI (-1)), some (iI (-1)), some (iI 0), none, none] [] h) := rfl
set_option maxRecDepth 20000 in
set_option maxHeartbeats 4000000 in
theorem e_Pa_wishOf_9 (d n : Nat) (l0 : Nat) (l1 : Option Nat) (l2 : Int) (l3 : Int) (l4 : Int) (l5 : Int) (l6 : Int) (h : IH) :
 lp d 39 (n + 1) 9 [some (iR (some l0)), some (iR l1), some (iI l2), some (iI l3), some (iI l4), some (iI l5), some (iI l6), none, none] [] h =
 (xB l1 fun a2 =>
 xgI h a2 11 0 fun x1 =>
 (if l6 < x1 then
 xB l1 fun a4 =>
 xgR h a4 11 2 fun x3 =>
 xB x3 fun a6 =>
 xaI h a6 l6 fun x5 =>
 (if (iand (ishr l3 x5) 1) = 1 then
 xgR h l0 13 1 fun x7 =>
 xB x7 fun a9 =>
 xaI h a9 l2 fun x8 =>
 (if (iand (ishr x8 l6) 1) = 1 then
 lp d 39 n 48 [some (iR (some l0)), some (iR l1), some (iI l2), some (iI l3), some (iI l4), some (iI l5), some (iI l6), none, none] [] h
 else
 lp d 39 n 53 [some (iR (some l0)), some (iR l1), some (iI l2), some (iI l3), some (iI l4), some (iI l5), some (iI l6), none, none] [iI 0] h)
 else
 lp d 39 n 53 [some (iR (some l0)), some (iR l1), some (iI l2), some (iI l3), some (iI l4), some (iI l5), some (iI l6), none, none] [iI 0] h)
 else
 (if l4 = (-1) then
 lp d 39 n 101 [none, some (iR l1), some (iI l2), none, none, none, none, none, none] [] h
 else
 some (oI l4, h)))) := rfl
set_option maxRecDepth 20000 in
set_option maxHeartbeats 4000000 in
theorem e_Pa_wishOf_48 (d n : Nat) (l0 : Nat) (l1 : Option Nat) (l2 : Int) (l3 : Int) (l4 : Int) (l5 : Int) (l6 : Int) (h : IH) :
 lp d 39 (n + 1) 48 [some (iR (some l0)), some (iR l1), some (iI l2), some (iI l3), some (iI l4), some (iI l5), some (iI l6), none, none] [] h =
 (lp d 39 n 53 [some (iR (some l0)), some (iR l1), some (iI l2), some (iI l3), some (iI l4), some (iI l5), some (iI l6), none, none] [iI 1] h) := rfl
set_option maxRecDepth 20000 in
set_option maxHeartbeats 4000000 in
theorem e_Pa_wishOf_53 (d n : Nat) (l0 : Nat) (l1 : Option Nat) (l2 : Int) (l3 : Int) (l4 : Int) (l5 : Int) (l6 : Int) (s0 : Int) (h : IH) :
 lp d 39 (n + 1) 53 [some (iR (some l0)), some (iR l1), some (iI l2), some (iI l3), some (iI l4), some (iI l5), some (iI l6), none, none] [iI s0] h =
 (xgR h l0 13 0 fun x1 =>
 xB x1 fun a3 =>
 xaI h a3 (wr ((wr (l2 * 7)) + l6)) fun x2 =>
 (if s0 = 0 then
 lp d 39 n 9 [some (iR (some l0)), some (iR l1), some (iI l2), some (iI l3), some (iI l4), some (iI l5), some (iI (wr (l6 + 1))), none, none] [] h
 else
 (if x2 ≤ l5 then
 lp d 39 n 9 [some (iR (some l0)), some (iR l1), some (iI l2), some (iI l3), some (iI l4), some (iI l5), some (iI (wr (l6 + 1))), none, none] [] h
 else
 lp d 39 n 9 [some (iR (some l0)), some (iR l1), some (iI l2), some (iI l3), some (iI l6), some (iI x2), some (iI (wr (l6 + 1))), none, none] [] h))) := rfl
set_option maxRecDepth 20000 in
set_option maxHeartbeats 4000000 in
theorem e_Pa_wishOf_101 (d n : Nat) (l1 : Option Nat) (l2 : Int) (h : IH) :
 lp d 39 (n + 1) 101 [none, some (iR l1), some (iI l2), none, none, none, none, none, none] [] h =
 (xB l1 fun a2 =>
 xgR h a2 11 1 fun x1 =>
 xB x1 fun a4 =>
 xaI h a4 l2 fun x3 =>
 some (oI x3, h)) := rfl
-- TownSundays$Paper.inRings(LTownSundays$Land;I)I
theorem r_Pa_inRings (d : Nat) (l0 : Nat) (l1 : Option Nat) (l2 : Int) (h : IH) : rn (d + 1) 40 [iR (some l0), iR l1, iI l2] h = lp d 40 (999999 + 1) 0 [some (iR (some l0)), some (iR l1), some (iI l2), none, none, none, none] [] h := rn_lp rfl rfl
set_option maxRecDepth 20000 in
set_option maxHeartbeats 4000000 in
theorem e_Pa_inRings (d n : Nat) (l0 : Nat) (l1 : Option Nat) (l2 : Int) (h : IH) :
 lp d 40 (n + 1) 0 [some (iR (some l0)), some (iR l1), some (iI l2), none, none, none, none] [] h =
 (lp d 40 n 5 [some (iR (some l0)), some (iR l1), some (iI l2), some (iI 0), some (iI 0), none, none] [] h) := rfl
set_option maxRecDepth 20000 in
set_option maxHeartbeats 4000000 in
theorem e_Pa_inRings_5 (d n : Nat) (l0 : Nat) (l1 : Option Nat) (l2 : Int) (l3 : Int) (l4 : Int) (h : IH) :
 lp d 40 (n + 1) 5 [some (iR (some l0)), some (iR l1), some (iI l2), some (iI l3), some (iI l4), none, none] [] h =
 (xB l1 fun a2 =>
 xgI h a2 11 0 fun x1 =>
 (if l4 < x1 then
 lp d 40 n 21 [some (iR (some l0)), some (iR l1), some (iI l2), some (iI l3), some (iI l4), some (iI l4), some (iI 0)] [] h
 else
 some (oI l3, h))) := rfl
set_option maxRecDepth 20000 in
set_option maxHeartbeats 4000000 in
theorem e_Pa_inRings_21 (d n : Nat) (l0 : Nat) (l1 : Option Nat) (l2 : Int) (l3 : Int) (l4 : Int) (l5 : Int) (l6 : Int) (h : IH) :
 lp d 40 (n + 1) 21 [some (iR (some l0)), some (iR l1), some (iI l2), some (iI l3), some (iI l4), some (iI l5), some (iI l6)] [] h =
 (xB l1 fun a2 =>
 xgI h a2 11 0 fun x1 =>
 (if l6 < x1 then
 (if (iand (ishr l2 l4) 1) = 1 then
 xB l1 fun a4 =>
 xgR h a4 11 2 fun x3 =>
 xgR h l0 13 5 fun x5 =>
 xB x5 fun a7 =>
 xaI h a7 l5 fun x6 =>
 xB x3 fun a9 =>
 xaI h a9 x6 fun x8 =>
 (if x8 = l4 then
 lp d 40 n 21 [some (iR (some l0)), some (iR l1), some (iI l2), some (iI (ior l3 (ishl 1 l4))), some (iI l4), some (iI x8), some (iI (wr (l6 + 1)))] [] h
 else
 lp d 40 n 21 [some (iR (some l0)), some (iR l1), some (iI l2), some (iI l3), some (iI l4), some (iI x8), some (iI (wr (l6 + 1)))] [] h)
 else
 lp d 40 n 5 [some (iR (some l0)), some (iR l1), some (iI l2), some (iI l3), some (iI (wr (l4 + 1))), none, none] [] h)
 else
 lp d 40 n 5 [some (iR (some l0)), some (iR l1), some (iI l2), some (iI l3), some (iI (wr (l4 + 1))), none, none] [] h)) := rfl
-- TownSundays$Paper.bargain(LTownSundays$Land;I)I
theorem r_Pa_bargain (d : Nat) (l0 : Nat) (l1 : Option Nat) (l2 : Int) (h : IH) : rn (d + 1) 41 [iR (some l0), iR l1, iI l2] h = lp d 41 (999999 + 1) 0 [some (iR (some l0)), some (iR l1), some (iI l2), none, none, none] [] h := rn_lp rfl rfl
set_option maxRecDepth 20000 in
set_option maxHeartbeats 4000000 in
theorem e_Pa_bargain (d n : Nat) (l0 : Nat) (l1 : Option Nat) (l2 : Int) (h : IH) :
 lp d 41 (n + 1) 0 [some (iR (some l0)), some (iR l1), some (iI l2), none, none, none] [] h =
 (lp d 41 n 5 [some (iR (some l0)), some (iR l1), some (iI l2), some (iI 0), some (iI 0), none] [] h) := rfl
set_option maxRecDepth 20000 in
set_option maxHeartbeats 4000000 in
theorem e_Pa_bargain_5 (d n : Nat) (l0 : Nat) (l1 : Option Nat) (l2 : Int) (l3 : Int) (l4 : Int) (h : IH) :
 lp d 41 (n + 1) 5 [some (iR (some l0)), some (iR l1), some (iI l2), some (iI l3), some (iI l4), none] [] h =
 (xB l1 fun a2 =>
 xgI h a2 11 0 fun x1 =>
 (if l4 < x1 then
 lp d 41 n 20 [some (iR (some l0)), some (iR l1), some (iI l2), some (iI l3), some (iI l4), some (iI (wr (l4 + 1)))] [] h
 else
 (if l2 = (-1) then
 some (oI l3, h)
 else
 some (oI (-1), h)))) := rfl
set_option maxRecDepth 20000 in
set_option maxHeartbeats 4000000 in
theorem e_Pa_bargain_20 (d n : Nat) (l0 : Nat) (l1 : Option Nat) (l2 : Int) (l3 : Int) (l4 : Int) (l5 : Int) (h : IH) :
 lp d 41 (n + 1) 20 [some (iR (some l0)), some (iR l1), some (iI l2), some (iI l3), some (iI l4), some (iI l5)] [] h =
 (xB l1 fun a2 =>
 xgI h a2 11 0 fun x1 =>
 (if l5 < x1 then
 xck h l0 13 <|
 kI (rn d 42 [iR (some l0), iR l1, iI l4, iI l5] h) fun x4 h3 =>
 (if x4 = 0 then
 lp d 41 n 20 [some (iR (some l0)), some (iR l1), some (iI l2), some (iI l3), some (iI l4), some (iI (wr (l5 + 1)))] [] h3
 else
 xck h3 l0 13 <|
 kI (rn d 42 [iR (some l0), iR l1, iI l5, iI l4] h3) fun x6 h5 =>
 (if x6 = 0 then
 lp d 41 n 20 [some (iR (some l0)), some (iR l1), some (iI l2), some (iI l3), some (iI l4), some (iI (wr (l5 + 1)))] [] h5
 else
 (if l3 = l2 then
 some (oI (wr ((wr (l4 * 7)) + l5)), h5)
 else
 lp d 41 n 20 [some (iR (some l0)), some (iR l1), some (iI l2), some (iI (wr (l3 + 1))), some (iI l4), some (iI (wr (l5 + 1)))] [] h5)))
 else
 lp d 41 n 5 [some (iR (some l0)), some (iR l1), some (iI l2), some (iI l3), some (iI (wr (l4 + 1))), none] [] h)) := rfl
-- TownSundays$Paper.gains(LTownSundays$Land;II)Z
theorem r_Pa_gains (d : Nat) (l0 : Nat) (l1 : Option Nat) (l2 : Int) (l3 : Int) (h : IH) : rn (d + 1) 42 [iR (some l0), iR l1, iI l2, iI l3] h = lp d 42 (999999 + 1) 0 [some (iR (some l0)), some (iR l1), some (iI l2), some (iI l3), none, none] [] h := rn_lp rfl rfl
set_option maxRecDepth 20000 in
set_option maxHeartbeats 4000000 in
theorem e_Pa_gains (d n : Nat) (l0 : Nat) (l1 : Option Nat) (l2 : Int) (l3 : Int) (h : IH) :
 lp d 42 (n + 1) 0 [some (iR (some l0)), some (iR l1), some (iI l2), some (iI l3), none, none] [] h =
 (xgR h l0 13 0 fun x1 =>
 xB l1 fun a3 =>
 xgR h a3 11 1 fun x2 =>
 xB x2 fun a5 =>
 xaI h a5 l2 fun x4 =>
 xB x1 fun a7 =>
 xaI h a7 (wr ((wr (l2 * 7)) + x4)) fun x6 =>
 xgR h l0 13 0 fun x8 =>
 xB l1 fun a10 =>
 xgR h a10 11 1 fun x9 =>
 xB x9 fun a12 =>
 xaI h a12 l3 fun x11 =>
 xB x8 fun a14 =>
 xaI h a14 (wr ((wr (l2 * 7)) + x11)) fun x13 =>
 (if x13 ≤ x6 then
 xZ 0 h
 else
 xgR h l0 13 1 fun x15 =>
 xB x15 fun a17 =>
 xaI h a17 l2 fun x16 =>
 xB l1 fun a19 =>
 xgR h a19 11 1 fun x18 =>
 xB x18 fun a21 =>
 xaI h a21 l3 fun x20 =>
 (if (iand (ishr x16 x20) 1) = 1 then
 xZ 1 h
 else
 xZ 0 h))) := rfl
-- TownSundays$Paper.possible(LTownSundays$Land;)I
theorem r_Pa_possible (d : Nat) (l0 : Nat) (l1 : Option Nat) (h : IH) : rn (d + 1) 43 [iR (some l0), iR l1] h = lp d 43 (999999 + 1) 0 [some (iR (some l0)), some (iR l1), none, none, none, none] [] h := rn_lp rfl rfl
set_option maxRecDepth 20000 in
set_option maxHeartbeats 4000000 in
theorem e_Pa_possible (d n : Nat) (l0 : Nat) (l1 : Option Nat) (h : IH) :
 lp d 43 (n + 1) 0 [some (iR (some l0)), some (iR l1), none, none, none, none] [] h =
 (lp d 43 n 4 [some (iR (some l0)), some (iR l1), some (iI 0), some (iI 0), none, none] [] h) := rfl
set_option maxRecDepth 20000 in
set_option maxHeartbeats 4000000 in
theorem e_Pa_possible_4 (d n : Nat) (l0 : Nat) (l1 : Option Nat) (l2 : Int) (l3 : Int) (h : IH) :
 lp d 43 (n + 1) 4 [some (iR (some l0)), some (iR l1), some (iI l2), some (iI l3), none, none] [] h =
 (xB l1 fun a2 =>
 xgI h a2 11 0 fun x1 =>
 (if l3 < x1 then
 lp d 43 n 18 [some (iR (some l0)), some (iR l1), some (iI l2), some (iI l3), some (iI 1), some (iI 0)] [] h
 else
 some (oI l2, h))) := rfl
set_option maxRecDepth 20000 in
set_option maxHeartbeats 4000000 in
theorem e_Pa_possible_18 (d n : Nat) (l0 : Nat) (l1 : Option Nat) (l2 : Int) (l3 : Int) (l4 : Int) (l5 : Int) (h : IH) :
 lp d 43 (n + 1) 18 [some (iR (some l0)), some (iR l1), some (iI l2), some (iI l3), some (iI l4), some (iI l5)] [] h =
 (xB l1 fun a2 =>
 xgI h a2 11 11 fun x1 =>
 (if l5 < x1 then
 (if l5 < 6 then
 (if l4 = 0 then
 lp d 43 n 18 [some (iR (some l0)), some (iR l1), some (iI l2), some (iI l3), some (iI 0), some (iI (wr (l5 + 1)))] [] h
 else
 xgR h l0 13 0 fun x3 =>
 xB l1 fun a5 =>
 xgR h a5 11 9 fun x4 =>
 xB x4 fun a7 =>
 xaI h a7 l5 fun x6 =>
 xB x3 fun a9 =>
 xaI h a9 (wr ((wr (l3 * 7)) + x6)) fun x8 =>
 xB l1 fun a11 =>
 xgR h a11 11 10 fun x10 =>
 xB x10 fun a13 =>
 xaI h a13 l5 fun x12 =>
 (if x8 = x12 then
 lp d 43 n 18 [some (iR (some l0)), some (iR l1), some (iI l2), some (iI l3), some (iI 1), some (iI (wr (l5 + 1)))] [] h
 else
 lp d 43 n 18 [some (iR (some l0)), some (iR l1), some (iI l2), some (iI l3), some (iI 0), some (iI (wr (l5 + 1)))] [] h))
 else
 (if l4 = 0 then
 lp d 43 n 4 [some (iR (some l0)), some (iR l1), some (iI l2), some (iI (wr (l3 + 1))), none, none] [] h
 else
 lp d 43 n 4 [some (iR (some l0)), some (iR l1), some (iI (ior l2 (ishl 1 l3))), some (iI (wr (l3 + 1))), none, none] [] h))
 else
 (if l4 = 0 then
 lp d 43 n 4 [some (iR (some l0)), some (iR l1), some (iI l2), some (iI (wr (l3 + 1))), none, none] [] h
 else
 lp d 43 n 4 [some (iR (some l0)), some (iR l1), some (iI (ior l2 (ishl 1 l3))), some (iI (wr (l3 + 1))), none, none] [] h))) := rfl
-- TownSundays$Paper.bestQuestion(II)I
theorem r_Pa_bestQuestion (d : Nat) (l0 : Nat) (l1 : Int) (l2 : Int) (h : IH) : rn (d + 1) 44 [iR (some l0), iI l1, iI l2] h = lp d 44 (999999 + 1) 0 [some (iR (some l0)), some (iI l1), some (iI l2), none, none] [] h := rn_lp rfl rfl
set_option maxRecDepth 20000 in
set_option maxHeartbeats 4000000 in
theorem e_Pa_bestQuestion (d n : Nat) (l0 : Nat) (l1 : Int) (l2 : Int) (h : IH) :
 lp d 44 (n + 1) 0 [some (iR (some l0)), some (iI l1), some (iI l2), none, none] [] h =
 (lp d 44 n 5 [some (iR (some l0)), some (iI l1), some (iI l2), some (iI 0), some (iI 1)] [] h) := rfl
set_option maxRecDepth 20000 in
set_option maxHeartbeats 4000000 in
theorem e_Pa_bestQuestion_5 (d n : Nat) (l0 : Nat) (l1 : Int) (l2 : Int) (l3 : Int) (l4 : Int) (h : IH) :
 lp d 44 (n + 1) 5 [some (iR (some l0)), some (iI l1), some (iI l2), some (iI l3), some (iI l4)] [] h =
 ((if l4 < l1 then
 xck h l0 13 <|
 kI (rn d 45 [iR (some l0), iI l1, iI l2, iI l4] h) fun x2 h1 =>
 xck h1 l0 13 <|
 kI (rn d 45 [iR (some l0), iI l1, iI l2, iI l3] h1) fun x4 h3 =>
 (if x2 < x4 then
 lp d 44 n 5 [some (iR (some l0)), some (iI l1), some (iI l2), some (iI l4), some (iI (wr (l4 + 1)))] [] h3
 else
 lp d 44 n 5 [some (iR (some l0)), some (iI l1), some (iI l2), some (iI l3), some (iI (wr (l4 + 1)))] [] h3)
 else
 some (oI l3, h))) := rfl
-- TownSundays$Paper.mostAlike(III)I
theorem r_Pa_mostAlike (d : Nat) (l0 : Nat) (l1 : Int) (l2 : Int) (l3 : Int) (h : IH) : rn (d + 1) 45 [iR (some l0), iI l1, iI l2, iI l3] h = lp d 45 (999999 + 1) 0 [some (iR (some l0)), some (iI l1), some (iI l2), some (iI l3), none, none, none, none, none] [] h := rn_lp rfl rfl
set_option maxRecDepth 20000 in
set_option maxHeartbeats 4000000 in
theorem e_Pa_mostAlike (d n : Nat) (l0 : Nat) (l1 : Int) (l2 : Int) (l3 : Int) (h : IH) :
 lp d 45 (n + 1) 0 [some (iR (some l0)), some (iI l1), some (iI l2), some (iI l3), none, none, none, none, none] [] h =
 (lp d 45 n 6 [some (iR (some l0)), some (iI l1), some (iI l2), some (iI l3), some (iI 0), some (iI 0), none, none, none] [] h) := rfl
set_option maxRecDepth 20000 in
set_option maxHeartbeats 4000000 in
theorem e_Pa_mostAlike_6 (d n : Nat) (l0 : Nat) (l1 : Int) (l2 : Int) (l3 : Int) (l4 : Int) (l5 : Int) (h : IH) :
 lp d 45 (n + 1) 6 [some (iR (some l0)), some (iI l1), some (iI l2), some (iI l3), some (iI l4), some (iI l5), none, none, none] [] h =
 ((if l5 < l1 then
 lp d 45 n 18 [some (iR (some l0)), some (iI l1), some (iI l2), some (iI l3), some (iI l4), some (iI l5), some (iI 0), some (iI 0), none] [] h
 else
 some (oI l4, h))) := rfl
set_option maxRecDepth 20000 in
set_option maxHeartbeats 4000000 in
theorem e_Pa_mostAlike_18 (d n : Nat) (l0 : Nat) (l1 : Int) (l2 : Int) (l3 : Int) (l4 : Int) (l5 : Int) (l6 : Int) (l7 : Int) (h : IH) :
 lp d 45 (n + 1) 18 [some (iR (some l0)), some (iI l1), some (iI l2), some (iI l3), some (iI l4), some (iI l5), some (iI l6), some (iI l7), none] [] h =
 ((if l7 < l1 then
 (if (iand (iand (ishr l2 l5) (ishr l2 l7)) 1) = 1 then
 lp d 45 n 44 [some (iR (some l0)), some (iI l1), some (iI l2), some (iI l3), some (iI l4), some (iI l5), some (iI l6), some (iI l7), none] [iI 1] h
 else
 lp d 45 n 44 [some (iR (some l0)), some (iI l1), some (iI l2), some (iI l3), some (iI l4), some (iI l5), some (iI l6), some (iI l7), none] [iI 0] h)
 else
 lp d 45 n 96 [some (iR (some l0)), some (iI l1), some (iI l2), some (iI l3), some (iI (imax l4 l6)), some (iI l5), none, none, none] [] h)) := rfl
set_option maxRecDepth 20000 in
set_option maxHeartbeats 4000000 in
theorem e_Pa_mostAlike_44 (d n : Nat) (l0 : Nat) (l1 : Int) (l2 : Int) (l3 : Int) (l4 : Int) (l5 : Int) (l6 : Int) (l7 : Int) (s0 : Int) (h : IH) :
 lp d 45 (n + 1) 44 [some (iR (some l0)), some (iI l1), some (iI l2), some (iI l3), some (iI l4), some (iI l5), some (iI l6), some (iI l7), none] [iI s0] h =
 ((if s0 = 0 then
 lp d 45 n 18 [some (iR (some l0)), some (iI l1), some (iI l2), some (iI l3), some (iI l4), some (iI l5), some (iI l6), some (iI (wr (l7 + 1))), none] [] h
 else
 xgR h l0 13 0 fun x1 =>
 xB x1 fun a3 =>
 xaI h a3 (wr ((wr (l5 * 7)) + l3)) fun x2 =>
 xgR h l0 13 0 fun x4 =>
 xB x4 fun a6 =>
 xaI h a6 (wr ((wr (l7 * 7)) + l3)) fun x5 =>
 (if x2 = x5 then
 lp d 45 n 18 [some (iR (some l0)), some (iI l1), some (iI l2), some (iI l3), some (iI l4), some (iI l5), some (iI (wr (l6 + 1))), some (iI (wr (l7 + 1))), none] [] h
 else
 lp d 45 n 18 [some (iR (some l0)), some (iI l1), some (iI l2), some (iI l3), some (iI l4), some (iI l5), some (iI l6), some (iI (wr (l7 + 1))), none] [] h))) := rfl
set_option maxRecDepth 20000 in
set_option maxHeartbeats 4000000 in
theorem e_Pa_mostAlike_96 (d n : Nat) (l0 : Nat) (l1 : Int) (l2 : Int) (l3 : Int) (l4 : Int) (l5 : Int) (h : IH) :
 lp d 45 (n + 1) 96 [some (iR (some l0)), some (iI l1), some (iI l2), some (iI l3), some (iI l4), some (iI l5), none, none, none] [] h =
 (lp d 45 n 6 [some (iR (some l0)), some (iI l1), some (iI l2), some (iI l3), some (iI l4), some (iI (wr (l5 + 1))), none, none, none] [] h) := rfl
-- TownSundays$Past.init()V
theorem r_Ps_init (d : Nat) (l0 : Nat) (h : IH) : rn (d + 1) 46 [iR (some l0)] h = lp d 46 (999999 + 1) 0 [some (iR (some l0))] [] h := rn_lp rfl rfl
set_option maxRecDepth 20000 in
set_option maxHeartbeats 4000000 in
theorem e_Ps_init (d n : Nat) (l0 : Nat) (h : IH) :
 lp d 46 (n + 1) 0 [some (iR (some l0))] [] h =
 (xpI h l0 14 0 0 fun h1 =>
 xpI h1 l0 14 1 0 fun h2 =>
 xnA h2 0 1224 fun a3 h4 =>
 xpR h4 l0 14 2 (some a3) fun h5 =>
 some (o0, h5)) := rfl
-- TownSundays$Past.clear()V
theorem r_Ps_clear (d : Nat) (l0 : Nat) (h : IH) : rn (d + 1) 47 [iR (some l0)] h = lp d 47 (999999 + 1) 0 [some (iR (some l0))] [] h := rn_lp rfl rfl
set_option maxRecDepth 20000 in
set_option maxHeartbeats 4000000 in
theorem e_Ps_clear (d n : Nat) (l0 : Nat) (h : IH) :
 lp d 47 (n + 1) 0 [some (iR (some l0))] [] h =
 (xpI h l0 14 0 0 fun h1 =>
 some (o0, h1)) := rfl
-- TownSundays$Past.copyFrom(LTownSundays$Past;)V
theorem r_Ps_copyFrom (d : Nat) (l0 : Nat) (l1 : Option Nat) (h : IH) : rn (d + 1) 48 [iR (some l0), iR l1] h = lp d 48 (999999 + 1) 0 [some (iR (some l0)), some (iR l1)] [] h := rn_lp rfl rfl
set_option maxRecDepth 20000 in
set_option maxHeartbeats 4000000 in
theorem e_Ps_copyFrom (d n : Nat) (l0 : Nat) (l1 : Option Nat) (h : IH) :
 lp d 48 (n + 1) 0 [some (iR (some l0)), some (iR l1)] [] h =
 (xB l1 fun a2 =>
 xgI h a2 14 0 fun x1 =>
 xpI h l0 14 0 x1 fun h3 =>
 xB l1 fun a5 =>
 xgI h3 a5 14 1 fun x4 =>
 xpI h3 l0 14 1 x4 fun h6 =>
 xB l1 fun a8 =>
 xgR h6 a8 14 2 fun x7 =>
 xgR h6 l0 14 2 fun x9 =>
 xgR h6 l0 14 2 fun x10 =>
 xB x10 fun a12 =>
 xle h6 a12 fun x11 =>
 xcp h6 x7 0 x9 0 x11 fun h13 =>
 some (o0, h13)) := rfl
-- TownSundays$Past.prepare(LTownSundays$Land;I)V
theorem r_Ps_prepare (d : Nat) (l0 : Nat) (l1 : Option Nat) (l2 : Int) (h : IH) : rn (d + 1) 49 [iR (some l0), iR l1, iI l2] h = lp d 49 (999999 + 1) 0 [some (iR (some l0)), some (iR l1), some (iI l2), none] [] h := rn_lp rfl rfl
set_option maxRecDepth 20000 in
set_option maxHeartbeats 4000000 in
theorem e_Ps_prepare (d n : Nat) (l0 : Nat) (l1 : Option Nat) (l2 : Int) (h : IH) :
 lp d 49 (n + 1) 0 [some (iR (some l0)), some (iR l1), some (iI l2), none] [] h =
 (xgI h l0 14 1 fun x1 =>
 xB l1 fun a3 =>
 xgR h a3 11 1 fun x2 =>
 xgR h l0 14 2 fun x4 =>
 xcp h x2 0 x4 (wr (x1 * 72)) 7 fun h5 =>
 xB l1 fun a7 =>
 xgR h5 a7 11 3 fun x6 =>
 xgR h5 l0 14 2 fun x8 =>
 xcp h5 x6 0 x8 (wr ((wr (x1 * 72)) + 7)) 7 fun h9 =>
 xB l1 fun a11 =>
 xgR h9 a11 11 7 fun x10 =>
 xgR h9 l0 14 2 fun x12 =>
 xcp h9 x10 0 x12 (wr ((wr (x1 * 72)) + 14)) 7 fun h13 =>
 xB l1 fun a15 =>
 xgR h13 a15 11 5 fun x14 =>
 xgR h13 l0 14 2 fun x16 =>
 xcp h13 x14 0 x16 (wr ((wr (x1 * 72)) + 21)) 49 fun h17 =>
 xgR h17 l0 14 2 fun x18 =>
 xB l1 fun a20 =>
 xgR h17 a20 11 8 fun x19 =>
 xB x19 fun a22 =>
 xaI h17 a22 0 fun x21 =>
 xB x18 fun a24 =>
 xsI h17 a24 (wr ((wr (x1 * 72)) + 70)) x21 fun h23 =>
 xgR h23 l0 14 2 fun x25 =>
 xB x25 fun a27 =>
 xsI h23 a27 (wr ((wr (x1 * 72)) + 71)) l2 fun h26 =>
 lp d 49 n 102 [none, none, none, none] [] h26) := rfl
set_option maxRecDepth 20000 in
set_option maxHeartbeats 4000000 in
theorem e_Ps_prepare_102 (d n : Nat)  (h : IH) :
 lp d 49 (n + 1) 102 [none, none, none, none] [] h =
 (some (o0, h)) := rfl
-- TownSundays$Past.keepPrepared()V
theorem r_Ps_keepPrepared (d : Nat) (l0 : Nat) (h : IH) : rn (d + 1) 50 [iR (some l0)] h = lp d 50 (999999 + 1) 0 [some (iR (some l0))] [] h := rn_lp rfl rfl
set_option maxRecDepth 20000 in
set_option maxHeartbeats 4000000 in
theorem e_Ps_keepPrepared (d n : Nat) (l0 : Nat) (h : IH) :
 lp d 50 (n + 1) 0 [some (iR (some l0))] [] h =
 (xgI h l0 14 1 fun x1 =>
 xmI (wr (x1 + 1)) 17 fun x2 =>
 xpI h l0 14 1 x2 fun h3 =>
 xgI h3 l0 14 0 fun x4 =>
 xpI h3 l0 14 0 (imin (wr (x4 + 1)) 16) fun h5 =>
 some (o0, h5)) := rfl
-- TownSundays$Past.takeBack(LTownSundays$Land;)I
theorem r_Ps_takeBack (d : Nat) (l0 : Nat) (l1 : Option Nat) (h : IH) : rn (d + 1) 51 [iR (some l0), iR l1] h = lp d 51 (999999 + 1) 0 [some (iR (some l0)), some (iR l1), none, none] [] h := rn_lp rfl rfl
set_option maxRecDepth 20000 in
set_option maxHeartbeats 4000000 in
theorem e_Ps_takeBack (d n : Nat) (l0 : Nat) (l1 : Option Nat) (h : IH) :
 lp d 51 (n + 1) 0 [some (iR (some l0)), some (iR l1), none, none] [] h =
 (xgI h l0 14 1 fun x1 =>
 xmI (wr ((wr (x1 + 17)) - 1)) 17 fun x2 =>
 xpI h l0 14 1 x2 fun h3 =>
 xgI h3 l0 14 0 fun x4 =>
 xpI h3 l0 14 0 (imax (wr (x4 - 1)) 0) fun h5 =>
 xgI h5 l0 14 1 fun x6 =>
 lp d 51 n 40 [some (iR (some l0)), some (iR l1), some (iI (wr (x6 * 72))), some (iI 0)] [] h5) := rfl
set_option maxRecDepth 20000 in
set_option maxHeartbeats 4000000 in
theorem e_Ps_takeBack_40 (d n : Nat) (l0 : Nat) (l1 : Option Nat) (l2 : Int) (l3 : Int) (h : IH) :
 lp d 51 (n + 1) 40 [some (iR (some l0)), some (iR l1), some (iI l2), some (iI l3)] [] h =
 (xB l1 fun a2 =>
 xgI h a2 11 0 fun x1 =>
 (if l3 < x1 then
 xgR h l0 14 2 fun x3 =>
 xB x3 fun a5 =>
 xaI h a5 (wr (l2 + l3)) fun x4 =>
 xB l1 fun a6 =>
 xck h a6 11 <|
 kV (rn d 17 [iR (some a6), iI l3, iI x4] h) fun h7 =>
 lp d 51 n 40 [some (iR (some l0)), some (iR l1), some (iI l2), some (iI (wr (l3 + 1)))] [] h7
 else
 xgR h l0 14 2 fun x8 =>
 xB l1 fun a10 =>
 xgR h a10 11 3 fun x9 =>
 xcp h x8 (wr (l2 + 7)) x9 0 7 fun h11 =>
 xgR h11 l0 14 2 fun x12 =>
 xB l1 fun a14 =>
 xgR h11 a14 11 7 fun x13 =>
 xcp h11 x12 (wr (l2 + 14)) x13 0 7 fun h15 =>
 xgR h15 l0 14 2 fun x16 =>
 xB l1 fun a18 =>
 xgR h15 a18 11 5 fun x17 =>
 xcp h15 x16 (wr (l2 + 21)) x17 0 49 fun h19 =>
 xB l1 fun a21 =>
 xgR h19 a21 11 8 fun x20 =>
 xgR h19 l0 14 2 fun x22 =>
 xB x22 fun a24 =>
 xaI h19 a24 (wr (l2 + 70)) fun x23 =>
 xB x20 fun a26 =>
 xsI h19 a26 0 x23 fun h25 =>
 xgR h25 l0 14 2 fun x27 =>
 xB x27 fun a29 =>
 xaI h25 a29 (wr (l2 + 71)) fun x28 =>
 some (oI x28, h25))) := rfl
-- TownSundays$Reader.init()V
theorem r_Rd_init (d : Nat) (l0 : Nat) (h : IH) : rn (d + 1) 52 [iR (some l0)] h = lp d 52 (999999 + 1) 0 [some (iR (some l0))] [] h := rn_lp rfl rfl
set_option maxRecDepth 20000 in
set_option maxHeartbeats 4000000 in
theorem e_Rd_init (d n : Nat) (l0 : Nat) (h : IH) :
 lp d 52 (n + 1) 0 [some (iR (some l0))] [] h =
 (xnO h 9 fun a1 h2 =>
 kV (rn d 82 [iR (some a1), iI 400, iI 12] h2) fun h3 =>
 xpR h3 l0 15 0 (some a1) fun h4 =>
 xpI h4 l0 15 1 (-1) fun h5 =>
 xnA h5 0 0 fun a6 h7 =>
 xpR h7 l0 15 2 (some a6) fun h8 =>
 xpI h8 l0 15 3 0 fun h9 =>
 xpZ h9 l0 15 4 0 fun h10 =>
 xpI h10 l0 15 5 1001 fun h11 =>
 xpI h11 l0 15 6 0 fun h12 =>
 xpI h12 l0 15 7 0 fun h13 =>
 xpI h13 l0 15 8 0 fun h14 =>
 xpI h14 l0 15 9 0 fun h15 =>
 some (o0, h15)) := rfl
-- TownSundays$Reader.readText([IIZ)Z
theorem r_Rd_readText (d : Nat) (l0 : Nat) (l1 : Option Nat) (l2 : Int) (l3 : Int) (h : IH) : rn (d + 1) 53 [iR (some l0), iR l1, iI l2, iI l3] h = lp d 53 (999999 + 1) 0 [some (iR (some l0)), some (iR l1), some (iI l2), some (iI l3), none] [] h := rn_lp rfl rfl
set_option maxRecDepth 20000 in
set_option maxHeartbeats 4000000 in
theorem e_Rd_readText (d n : Nat) (l0 : Nat) (l1 : Option Nat) (l2 : Int) (l3 : Int) (h : IH) :
 lp d 53 (n + 1) 0 [some (iR (some l0)), some (iR l1), some (iI l2), some (iI l3), none] [] h =
 (xpR h l0 15 2 l1 fun h1 =>
 xB l1 fun a3 =>
 xle h1 a3 fun x2 =>
 xpI h1 l0 15 3 (imin l2 x2) fun h4 =>
 xpZ h4 l0 15 4 l3 fun h5 =>
 xpI h5 l0 15 1 (-1) fun h6 =>
 xpI h6 l0 15 9 0 fun h7 =>
 xpI h7 l0 15 7 0 fun h8 =>
 xgR h8 l0 15 0 fun x9 =>
 xB x9 fun a10 =>
 xck h8 a10 19 <|
 kV (rn d 83 [iR (some a10)] h8) fun h11 =>
 xck h11 l0 15 <|
 kV (rn d 54 [iR (some l0)] h11) fun h12 =>
 xck h12 l0 15 <|
 kV (rn d 59 [iR (some l0)] h12) fun h13 =>
 lp d 53 n 53 [some (iR (some l0)), none, none, none, some (iI 0)] [] h13) := rfl
set_option maxRecDepth 20000 in
set_option maxHeartbeats 4000000 in
theorem e_Rd_readText_53 (d n : Nat) (l0 : Nat) (l4 : Int) (h : IH) :
 lp d 53 (n + 1) 53 [some (iR (some l0)), none, none, none, some (iI l4)] [] h =
 ((if l4 < 400 then
 xck h l0 15 <|
 kI (rn d 57 [iR (some l0), iI 59] h) fun x2 h1 =>
 (if x2 = 0 then
 xgI h1 l0 15 5 fun x3 =>
 (if x3 = 1001 then
 xgI h1 l0 15 1 fun x4 =>
 (if x4 = (-1) then
 xZ 1 h1
 else
 xZ 0 h1)
 else
 xck h1 l0 15 <|
 kV (rn d 56 [iR (some l0)] h1) fun h5 =>
 xgI h5 l0 15 1 fun x6 =>
 (if x6 = (-1) then
 xZ 1 h5
 else
 xZ 0 h5))
 else
 xck h1 l0 15 <|
 kV (rn d 59 [iR (some l0)] h1) fun h7 =>
 lp d 53 n 53 [some (iR (some l0)), none, none, none, some (iI (wr (l4 + 1)))] [] h7)
 else
 xgI h l0 15 5 fun x8 =>
 (if x8 = 1001 then
 xgI h l0 15 1 fun x9 =>
 (if x9 = (-1) then
 xZ 1 h
 else
 xZ 0 h)
 else
 xck h l0 15 <|
 kV (rn d 56 [iR (some l0)] h) fun h10 =>
 xgI h10 l0 15 1 fun x11 =>
 (if x11 = (-1) then
 xZ 1 h10
 else
 xZ 0 h10)))) := rfl
-- TownSundays$Reader.nextToken()V
theorem r_Rd_nextToken (d : Nat) (l0 : Nat) (h : IH) : rn (d + 1) 54 [iR (some l0)] h = lp d 54 (999999 + 1) 0 [some (iR (some l0)), none] [] h := rn_lp rfl rfl
set_option maxRecDepth 20000 in
set_option maxHeartbeats 4000000 in
theorem e_Rd_nextToken (d n : Nat) (l0 : Nat) (h : IH) :
 lp d 54 (n + 1) 0 [some (iR (some l0)), none] [] h =
 (xgI h l0 15 7 fun x1 =>
 lp d 54 n 5 [some (iR (some l0)), some (iI x1)] [] h) := rfl
set_option maxRecDepth 20000 in
set_option maxHeartbeats 4000000 in
theorem e_Rd_nextToken_5 (d n : Nat) (l0 : Nat) (l1 : Int) (h : IH) :
 lp d 54 (n + 1) 5 [some (iR (some l0)), some (iI l1)] [] h =
 (xgI h l0 15 3 fun x1 =>
 (if l1 < x1 then
 xgR h l0 15 2 fun x2 =>
 xB x2 fun a4 =>
 xaI h a4 l1 fun x3 =>
 (if x3 = 32 then
 lp d 54 n 5 [some (iR (some l0)), some (iI (wr (l1 + 1)))] [] h
 else
 xpI h l0 15 6 l1 fun h5 =>
 xpI h5 l0 15 8 0 fun h6 =>
 lp d 54 n 40 [some (iR (some l0)), some (iI l1)] [] h6)
 else
 xpI h l0 15 6 l1 fun h7 =>
 xpI h7 l0 15 8 0 fun h8 =>
 lp d 54 n 40 [some (iR (some l0)), some (iI l1)] [] h8)) := rfl
set_option maxRecDepth 20000 in
set_option maxHeartbeats 4000000 in
theorem e_Rd_nextToken_40 (d n : Nat) (l0 : Nat) (l1 : Int) (h : IH) :
 lp d 54 (n + 1) 40 [some (iR (some l0)), some (iI l1)] [] h =
 (xgI h l0 15 3 fun x1 =>
 (if l1 < x1 then
 xgR h l0 15 2 fun x2 =>
 xB x2 fun a4 =>
 xaI h a4 l1 fun x3 =>
 (if x3 < 48 then
 lp d 54 n 103 [some (iR (some l0)), some (iI l1)] [] h
 else
 xgR h l0 15 2 fun x5 =>
 xB x5 fun a7 =>
 xaI h a7 l1 fun x6 =>
 (if x6 ≤ 57 then
 xgI h l0 15 8 fun x8 =>
 xgR h l0 15 2 fun x9 =>
 xB x9 fun a11 =>
 xaI h a11 l1 fun x10 =>
 xpI h l0 15 8 (imin (wr ((wr ((wr (x8 * 10)) + x10)) - 48)) 1001) fun h12 =>
 lp d 54 n 40 [some (iR (some l0)), some (iI (wr (l1 + 1)))] [] h12
 else
 lp d 54 n 103 [some (iR (some l0)), some (iI l1)] [] h))
 else
 lp d 54 n 103 [some (iR (some l0)), some (iI l1)] [] h)) := rfl
set_option maxRecDepth 20000 in
set_option maxHeartbeats 4000000 in
theorem e_Rd_nextToken_103 (d n : Nat) (l0 : Nat) (l1 : Int) (h : IH) :
 lp d 54 (n + 1) 103 [some (iR (some l0)), some (iI l1)] [] h =
 (xgI h l0 15 6 fun x1 =>
 (if l1 ≤ x1 then
 xpI h l0 15 5 1001 fun h2 =>
 xgI h2 l0 15 5 fun x3 =>
 (if x3 = 1001 then
 xgI h2 l0 15 3 fun x4 =>
 (if l1 < x4 then
 xgR h2 l0 15 2 fun x5 =>
 xB x5 fun a7 =>
 xaI h2 a7 l1 fun x6 =>
 xpI h2 l0 15 5 x6 fun h8 =>
 lp d 54 n 152 [some (iR (some l0)), some (iI l1)] [] h8
 else
 xpI h2 l0 15 7 l1 fun h9 =>
 some (o0, h9))
 else
 xpI h2 l0 15 7 l1 fun h10 =>
 some (o0, h10))
 else
 xpI h l0 15 5 1000 fun h11 =>
 xgI h11 l0 15 5 fun x12 =>
 (if x12 = 1001 then
 xgI h11 l0 15 3 fun x13 =>
 (if l1 < x13 then
 xgR h11 l0 15 2 fun x14 =>
 xB x14 fun a16 =>
 xaI h11 a16 l1 fun x15 =>
 xpI h11 l0 15 5 x15 fun h17 =>
 lp d 54 n 152 [some (iR (some l0)), some (iI l1)] [] h17
 else
 xpI h11 l0 15 7 l1 fun h18 =>
 some (o0, h18))
 else
 xpI h11 l0 15 7 l1 fun h19 =>
 some (o0, h19)))) := rfl
set_option maxRecDepth 20000 in
set_option maxHeartbeats 4000000 in
theorem e_Rd_nextToken_152 (d n : Nat) (l0 : Nat) (l1 : Int) (h : IH) :
 lp d 54 (n + 1) 152 [some (iR (some l0)), some (iI l1)] [] h =
 (xgI h l0 15 3 fun x1 =>
 (if l1 < x1 then
 xgR h l0 15 2 fun x2 =>
 xB x2 fun a4 =>
 xaI h a4 l1 fun x3 =>
 (if x3 < 97 then
 lp d 54 n 188 [some (iR (some l0)), some (iI l1)] [] h
 else
 xgR h l0 15 2 fun x5 =>
 xB x5 fun a7 =>
 xaI h a7 l1 fun x6 =>
 (if x6 ≤ 122 then
 lp d 54 n 152 [some (iR (some l0)), some (iI (wr (l1 + 1)))] [] h
 else
 lp d 54 n 188 [some (iR (some l0)), some (iI l1)] [] h))
 else
 lp d 54 n 188 [some (iR (some l0)), some (iI l1)] [] h)) := rfl
set_option maxRecDepth 20000 in
set_option maxHeartbeats 4000000 in
theorem e_Rd_nextToken_188 (d n : Nat) (l0 : Nat) (l1 : Int) (h : IH) :
 lp d 54 (n + 1) 188 [some (iR (some l0)), some (iI l1)] [] h =
 (xgI h l0 15 6 fun x1 =>
 (if l1 ≤ x1 then
 xpI h l0 15 7 (wr (l1 + 1)) fun h2 =>
 some (o0, h2)
 else
 xck h l0 15 <|
 kI (rn d 55 [iR (some l0), iI l1] h) fun x4 h3 =>
 xpI h3 l0 15 5 x4 fun h5 =>
 xpI h5 l0 15 7 l1 fun h6 =>
 some (o0, h6))) := rfl
-- TownSundays$Reader.wordUpTo(I)I
theorem r_Rd_wordUpTo (d : Nat) (l0 : Nat) (l1 : Int) (h : IH) : rn (d + 1) 55 [iR (some l0), iI l1] h = lp d 55 (999999 + 1) 0 [some (iR (some l0)), some (iI l1), none, none, none, none, none] [] h := rn_lp rfl rfl
set_option maxRecDepth 20000 in
set_option maxHeartbeats 4000000 in
theorem e_Rd_wordUpTo (d n : Nat) (l0 : Nat) (l1 : Int) (h : IH) :
 lp d 55 (n + 1) 0 [some (iR (some l0)), some (iI l1), none, none, none, none, none] [] h =
 (xgI h l0 15 6 fun x1 =>
 lp d 55 n 15 [some (iR (some l0)), some (iI l1), some (iI 256), some (iI x1), some (iI 1), some (iI 0), none] [] h) := rfl
set_option maxRecDepth 20000 in
set_option maxHeartbeats 4000000 in
theorem e_Rd_wordUpTo_15 (d n : Nat) (l0 : Nat) (l1 : Int) (l2 : Int) (l3 : Int) (l4 : Int) (l5 : Int) (h : IH) :
 lp d 55 (n + 1) 15 [some (iR (some l0)), some (iI l1), some (iI l2), some (iI l3), some (iI l4), some (iI l5), none] [] h =
 (xW (some 2) <|
 (if l5 < 135 then
 xW (some 2) <|
 xch l5 fun x1 =>
 (if x1 = 32 then
 (if l4 = 0 then
 xgI h l0 15 6 fun x2 =>
 lp d 55 n 15 [some (iR (some l0)), some (iI l1), some (iI (wr (l2 + 1))), some (iI x2), some (iI 1), some (iI (wr (l5 + 1))), none] [] h
 else
 (if l3 = l1 then
 some (oI l2, h)
 else
 xgI h l0 15 6 fun x3 =>
 lp d 55 n 15 [some (iR (some l0)), some (iI l1), some (iI (wr (l2 + 1))), some (iI x3), some (iI 1), some (iI (wr (l5 + 1))), none] [] h))
 else
 (if l4 = 0 then
 lp d 55 n 15 [some (iR (some l0)), some (iI l1), some (iI l2), some (iI (wr (l3 + 1))), some (iI 0), some (iI (wr (l5 + 1))), none] [] h
 else
 (if l3 < l1 then
 xgR h l0 15 2 fun x4 =>
 xB x4 fun a6 =>
 xaI h a6 l3 fun x5 =>
 (if x5 = x1 then
 lp d 55 n 15 [some (iR (some l0)), some (iI l1), some (iI l2), some (iI (wr (l3 + 1))), some (iI 1), some (iI (wr (l5 + 1))), none] [] h
 else
 lp d 55 n 15 [some (iR (some l0)), some (iI l1), some (iI l2), some (iI (wr (l3 + 1))), some (iI 0), some (iI (wr (l5 + 1))), none] [] h)
 else
 lp d 55 n 15 [some (iR (some l0)), some (iI l1), some (iI l2), some (iI (wr (l3 + 1))), some (iI 0), some (iI (wr (l5 + 1))), none] [] h)))
 else
 some (oI 1002, h))) := rfl
-- TownSundays$Reader.fail()V
theorem r_Rd_fail (d : Nat) (l0 : Nat) (h : IH) : rn (d + 1) 56 [iR (some l0)] h = lp d 56 (999999 + 1) 0 [some (iR (some l0))] [] h := rn_lp rfl rfl
set_option maxRecDepth 20000 in
set_option maxHeartbeats 4000000 in
theorem e_Rd_fail (d n : Nat) (l0 : Nat) (h : IH) :
 lp d 56 (n + 1) 0 [some (iR (some l0))] [] h =
 (xgI h l0 15 1 fun x1 =>
 (if x1 = (-1) then
 xgI h l0 15 6 fun x2 =>
 xpI h l0 15 1 x2 fun h3 =>
 xpI h3 l0 15 5 1002 fun h4 =>
 some (o0, h4)
 else
 some (o0, h))) := rfl
-- TownSundays$Reader.take(I)Z
theorem r_Rd_take (d : Nat) (l0 : Nat) (l1 : Int) (h : IH) : rn (d + 1) 57 [iR (some l0), iI l1] h = lp d 57 (999999 + 1) 0 [some (iR (some l0)), some (iI l1), none] [] h := rn_lp rfl rfl
set_option maxRecDepth 20000 in
set_option maxHeartbeats 4000000 in
theorem e_Rd_take (d n : Nat) (l0 : Nat) (l1 : Int) (h : IH) :
 lp d 57 (n + 1) 0 [some (iR (some l0)), some (iI l1), none] [] h =
 (xgI h l0 15 5 fun x1 =>
 (if x1 = l1 then
 (if 1 = 0 then
 xZ 1 h
 else
 xck h l0 15 <|
 kV (rn d 54 [iR (some l0)] h) fun h2 =>
 xZ 1 h2)
 else
 (if 0 = 0 then
 xZ 0 h
 else
 xck h l0 15 <|
 kV (rn d 54 [iR (some l0)] h) fun h3 =>
 xZ 0 h3))) := rfl
-- TownSundays$Reader.isNumber(II)Z
theorem r_Rd_isNumber (d : Nat) (l0 : Nat) (l1 : Int) (l2 : Int) (h : IH) : rn (d + 1) 58 [iR (some l0), iI l1, iI l2] h = lp d 58 (999999 + 1) 0 [some (iR (some l0)), some (iI l1), some (iI l2)] [] h := rn_lp rfl rfl
set_option maxRecDepth 20000 in
set_option maxHeartbeats 4000000 in
theorem e_Rd_isNumber (d n : Nat) (l0 : Nat) (l1 : Int) (l2 : Int) (h : IH) :
 lp d 58 (n + 1) 0 [some (iR (some l0)), some (iI l1), some (iI l2)] [] h =
 (xgI h l0 15 5 fun x1 =>
 (if x1 = 1000 then
 xgI h l0 15 8 fun x2 =>
 (if x2 < l1 then
 xZ 0 h
 else
 xgI h l0 15 8 fun x3 =>
 (if x3 ≤ l2 then
 xZ 1 h
 else
 xZ 0 h))
 else
 xZ 0 h)) := rfl
-- TownSundays$Reader.readClause()V
theorem r_Rd_readClause (d : Nat) (l0 : Nat) (h : IH) : rn (d + 1) 59 [iR (some l0)] h = lp d 59 (999999 + 1) 0 [some (iR (some l0)), none, none] [] h := rn_lp rfl rfl
set_option maxRecDepth 20000 in
set_option maxHeartbeats 4000000 in
theorem e_Rd_readClause (d n : Nat) (l0 : Nat) (h : IH) :
 lp d 59 (n + 1) 0 [some (iR (some l0)), none, none] [] h =
 (xgR h l0 15 0 fun x1 =>
 xB x1 fun a3 =>
 xgI h a3 19 7 fun x2 =>
 (if x2 < 12 then
 xgR h l0 15 0 fun x4 =>
 xB x4 fun a6 =>
 xgI h a6 19 7 fun x5 =>
 xgR h l0 15 0 fun x7 =>
 xB x7 fun a9 =>
 xgI h a9 19 7 fun x8 =>
 xB x7 fun a11 =>
 xpI h a11 19 7 (wr (x8 + 1)) fun h10 =>
 xgR h10 l0 15 0 fun x12 =>
 xB x12 fun a14 =>
 xgR h10 a14 19 3 fun x13 =>
 xB x13 fun a16 =>
 xsI h10 a16 x5 1 fun h15 =>
 xgI h15 l0 15 4 fun x17 =>
 (if x17 = 0 then
 xck h15 l0 15 <|
 kV (rn d 60 [iR (some l0), iI x5] h15) fun h18 =>
 xck h18 l0 15 <|
 kI (rn d 57 [iR (some l0), iI 279] h18) fun x20 h19 =>
 (if x20 = 0 then
 some (o0, h19)
 else
 xgR h19 l0 15 0 fun x21 =>
 xB x21 fun a23 =>
 xgI h19 a23 19 6 fun x22 =>
 xck h19 l0 15 <|
 kV (rn d 64 [iR (some l0), iI 0] h19) fun h24 =>
 xgR h24 l0 15 0 fun x25 =>
 xB x25 fun a26 =>
 xck h24 a26 19 <|
 kV (rn d 85 [iR (some a26), iI x5, iI 3, iI x22] h24) fun h27 =>
 some (o0, h27))
 else
 xck h15 l0 15 <|
 kV (rn d 61 [iR (some l0), iI x5] h15) fun h28 =>
 xck h28 l0 15 <|
 kV (rn d 63 [iR (some l0), iI x5] h28) fun h29 =>
 xck h29 l0 15 <|
 kI (rn d 57 [iR (some l0), iI 279] h29) fun x31 h30 =>
 (if x31 = 0 then
 some (o0, h30)
 else
 xgR h30 l0 15 0 fun x32 =>
 xB x32 fun a34 =>
 xgI h30 a34 19 6 fun x33 =>
 xck h30 l0 15 <|
 kV (rn d 64 [iR (some l0), iI 0] h30) fun h35 =>
 xgR h35 l0 15 0 fun x36 =>
 xB x36 fun a37 =>
 xck h35 a37 19 <|
 kV (rn d 85 [iR (some a37), iI x5, iI 3, iI x33] h35) fun h38 =>
 some (o0, h38)))
 else
 xck h l0 15 <|
 kV (rn d 56 [iR (some l0)] h) fun h39 =>
 some (o0, h39))) := rfl
-- TownSundays$Reader.readRule(I)V
theorem r_Rd_readRule (d : Nat) (l0 : Nat) (l1 : Int) (h : IH) : rn (d + 1) 60 [iR (some l0), iI l1] h = lp d 60 (999999 + 1) 0 [some (iR (some l0)), some (iI l1)] [] h := rn_lp rfl rfl
set_option maxRecDepth 20000 in
set_option maxHeartbeats 4000000 in
theorem e_Rd_readRule (d n : Nat) (l0 : Nat) (l1 : Int) (h : IH) :
 lp d 60 (n + 1) 0 [some (iR (some l0)), some (iI l1)] [] h =
 (xck h l0 15 <|
 kI (rn d 57 [iR (some l0), iI 269] h) fun x2 h1 =>
 (if x2 = 0 then
 xck h1 l0 15 <|
 kI (rn d 57 [iR (some l0), iI 270] h1) fun x4 h3 =>
 (if x4 = 0 then
 xck h3 l0 15 <|
 kI (rn d 57 [iR (some l0), iI 271] h3) fun x6 h5 =>
 (if x6 = 0 then
 xck h5 l0 15 <|
 kV (rn d 56 [iR (some l0)] h5) fun h7 =>
 some (o0, h7)
 else
 xgR h5 l0 15 0 fun x8 =>
 xB x8 fun a10 =>
 xgR h5 a10 19 2 fun x9 =>
 xB x9 fun a12 =>
 xsI h5 a12 l1 6 fun h11 =>
 some (o0, h11))
 else
 xgR h3 l0 15 0 fun x13 =>
 xB x13 fun a15 =>
 xgR h3 a15 19 2 fun x14 =>
 xB x14 fun a17 =>
 xsI h3 a17 l1 5 fun h16 =>
 xck h16 l0 15 <|
 kV (rn d 62 [iR (some l0), iI l1, iI 1, iI 1002] h16) fun h18 =>
 some (o0, h18))
 else
 xgR h1 l0 15 0 fun x19 =>
 xB x19 fun a21 =>
 xgR h1 a21 19 2 fun x20 =>
 xB x20 fun a23 =>
 xsI h1 a23 l1 4 fun h22 =>
 xck h22 l0 15 <|
 kV (rn d 62 [iR (some l0), iI l1, iI 1, iI 1002] h22) fun h24 =>
 some (o0, h24))) := rfl
-- TownSundays$Reader.readOrder(I)V
theorem r_Rd_readOrder (d : Nat) (l0 : Nat) (l1 : Int) (h : IH) : rn (d + 1) 61 [iR (some l0), iI l1] h = lp d 61 (999999 + 1) 0 [some (iR (some l0)), some (iI l1)] [] h := rn_lp rfl rfl
set_option maxRecDepth 20000 in
set_option maxHeartbeats 4000000 in
theorem e_Rd_readOrder (d n : Nat) (l0 : Nat) (l1 : Int) (h : IH) :
 lp d 61 (n + 1) 0 [some (iR (some l0)), some (iI l1)] [] h =
 (xck h l0 15 <|
 kI (rn d 57 [iR (some l0), iI 272] h) fun x2 h1 =>
 (if x2 = 0 then
 xck h1 l0 15 <|
 kI (rn d 57 [iR (some l0), iI 273] h1) fun x4 h3 =>
 (if x4 = 0 then
 xck h3 l0 15 <|
 kI (rn d 57 [iR (some l0), iI 274] h3) fun x6 h5 =>
 (if x6 = 0 then
 xck h5 l0 15 <|
 kI (rn d 57 [iR (some l0), iI 275] h5) fun x8 h7 =>
 (if x8 = 0 then
 lp d 61 n 120 [none, none] [iR (some l0)] h7
 else
 xgR h7 l0 15 0 fun x9 =>
 xB x9 fun a11 =>
 xgR h7 a11 19 2 fun x10 =>
 xB x10 fun a13 =>
 xsI h7 a13 l1 3 fun h12 =>
 some (o0, h12))
 else
 xgR h5 l0 15 0 fun x14 =>
 xB x14 fun a16 =>
 xgR h5 a16 19 2 fun x15 =>
 xB x15 fun a18 =>
 xsI h5 a18 l1 2 fun h17 =>
 xck h17 l0 15 <|
 kV (rn d 62 [iR (some l0), iI l1, iI 2, iI 277] h17) fun h19 =>
 some (o0, h19))
 else
 xgR h3 l0 15 0 fun x20 =>
 xB x20 fun a22 =>
 xgR h3 a22 19 2 fun x21 =>
 xB x21 fun a24 =>
 xsI h3 a24 l1 1 fun h23 =>
 xck h23 l0 15 <|
 kV (rn d 62 [iR (some l0), iI l1, iI 3, iI 277] h23) fun h25 =>
 some (o0, h25))
 else
 xgR h1 l0 15 0 fun x26 =>
 xB x26 fun a28 =>
 xgR h1 a28 19 2 fun x27 =>
 xB x27 fun a30 =>
 xsI h1 a30 l1 0 fun h29 =>
 xck h29 l0 15 <|
 kV (rn d 62 [iR (some l0), iI l1, iI 2, iI 276] h29) fun h31 =>
 some (o0, h31))) := rfl
set_option maxRecDepth 20000 in
set_option maxHeartbeats 4000000 in
theorem e_Rd_readOrder_120 (d n : Nat) (s0 : Nat) (h : IH) :
 lp d 61 (n + 1) 120 [none, none] [iR (some s0)] h =
 (xck h s0 15 <|
 kV (rn d 56 [iR (some s0)] h) fun h1 =>
 some (o0, h1)) := rfl
-- TownSundays$Reader.readSums(III)V
theorem r_Rd_readSums (d : Nat) (l0 : Nat) (l1 : Int) (l2 : Int) (l3 : Int) (h : IH) : rn (d + 1) 62 [iR (some l0), iI l1, iI l2, iI l3] h = lp d 62 (999999 + 1) 0 [some (iR (some l0)), some (iI l1), some (iI l2), some (iI l3), none, none] [] h := rn_lp rfl rfl
set_option maxRecDepth 20000 in
set_option maxHeartbeats 4000000 in
theorem e_Rd_readSums (d n : Nat) (l0 : Nat) (l1 : Int) (l2 : Int) (l3 : Int) (h : IH) :
 lp d 62 (n + 1) 0 [some (iR (some l0)), some (iI l1), some (iI l2), some (iI l3), none, none] [] h =
 (lp d 62 n 3 [some (iR (some l0)), some (iI l1), some (iI l2), some (iI l3), some (iI 0), none] [] h) := rfl
set_option maxRecDepth 20000 in
set_option maxHeartbeats 4000000 in
theorem e_Rd_readSums_3 (d n : Nat) (l0 : Nat) (l1 : Int) (l2 : Int) (l3 : Int) (l4 : Int) (h : IH) :
 lp d 62 (n + 1) 3 [some (iR (some l0)), some (iI l1), some (iI l2), some (iI l3), some (iI l4), none] [] h =
 ((if l4 < l2 then
 (if l4 ≤ 0 then
 lp d 62 n 26 [some (iR (some l0)), some (iI l1), some (iI l2), some (iI l3), some (iI l4), none] [] h
 else
 xck h l0 15 <|
 kI (rn d 57 [iR (some l0), iI l3] h) fun x2 h1 =>
 (if x2 = 0 then
 xck h1 l0 15 <|
 kV (rn d 56 [iR (some l0)] h1) fun h3 =>
 lp d 62 n 26 [some (iR (some l0)), some (iI l1), some (iI l2), some (iI l3), some (iI l4), none] [] h3
 else
 lp d 62 n 26 [some (iR (some l0)), some (iI l1), some (iI l2), some (iI l3), some (iI l4), none] [] h1))
 else
 some (o0, h))) := rfl
set_option maxRecDepth 20000 in
set_option maxHeartbeats 4000000 in
theorem e_Rd_readSums_26 (d n : Nat) (l0 : Nat) (l1 : Int) (l2 : Int) (l3 : Int) (l4 : Int) (h : IH) :
 lp d 62 (n + 1) 26 [some (iR (some l0)), some (iI l1), some (iI l2), some (iI l3), some (iI l4), none] [] h =
 (xgR h l0 15 0 fun x1 =>
 xB x1 fun a3 =>
 xgI h a3 19 6 fun x2 =>
 xck h l0 15 <|
 kV (rn d 67 [iR (some l0), iI 0] h) fun h4 =>
 xgR h4 l0 15 0 fun x5 =>
 xB x5 fun a6 =>
 xck h4 a6 19 <|
 kV (rn d 85 [iR (some a6), iI l1, iI l4, iI x2] h4) fun h7 =>
 lp d 62 n 3 [some (iR (some l0)), some (iI l1), some (iI l2), some (iI l3), some (iI (wr (l4 + 1))), none] [] h7) := rfl
-- TownSundays$Reader.readTimes(I)V
theorem r_Rd_readTimes (d : Nat) (l0 : Nat) (l1 : Int) (h : IH) : rn (d + 1) 63 [iR (some l0), iI l1] h = lp d 63 (999999 + 1) 0 [some (iR (some l0)), some (iI l1)] [] h := rn_lp rfl rfl
set_option maxRecDepth 20000 in
set_option maxHeartbeats 4000000 in
theorem e_Rd_readTimes (d n : Nat) (l0 : Nat) (l1 : Int) (h : IH) :
 lp d 63 (n + 1) 0 [some (iR (some l0)), some (iI l1)] [] h =
 (xck h l0 15 <|
 kI (rn d 57 [iR (some l0), iI 278] h) fun x2 h1 =>
 (if x2 = 0 then
 some (o0, h1)
 else
 xck h1 l0 15 <|
 kI (rn d 58 [iR (some l0), iI 1, iI 20] h1) fun x4 h3 =>
 (if x4 = 0 then
 xck h3 l0 15 <|
 kV (rn d 56 [iR (some l0)] h3) fun h5 =>
 some (o0, h5)
 else
 xgR h3 l0 15 0 fun x6 =>
 xB x6 fun a8 =>
 xgR h3 a8 19 3 fun x7 =>
 xgI h3 l0 15 8 fun x9 =>
 xB x7 fun a11 =>
 xsI h3 a11 l1 x9 fun h10 =>
 xck h10 l0 15 <|
 kV (rn d 54 [iR (some l0)] h10) fun h12 =>
 some (o0, h12)))) := rfl
-- TownSundays$Reader.readTest(I)V
theorem r_Rd_readTest (d : Nat) (l0 : Nat) (l1 : Int) (h : IH) : rn (d + 1) 64 [iR (some l0), iI l1] h = lp d 64 (999999 + 1) 0 [some (iR (some l0)), some (iI l1), none, none] [] h := rn_lp rfl rfl
set_option maxRecDepth 20000 in
set_option maxHeartbeats 4000000 in
theorem e_Rd_readTest (d n : Nat) (l0 : Nat) (l1 : Int) (h : IH) :
 lp d 64 (n + 1) 0 [some (iR (some l0)), some (iI l1), none, none] [] h =
 (xck h l0 15 <|
 kV (rn d 65 [iR (some l0), iI l1] h) fun h1 =>
 lp d 64 n 7 [some (iR (some l0)), some (iI l1), some (iI 0), none] [] h1) := rfl
set_option maxRecDepth 20000 in
set_option maxHeartbeats 4000000 in
theorem e_Rd_readTest_7 (d n : Nat) (l0 : Nat) (l1 : Int) (l2 : Int) (h : IH) :
 lp d 64 (n + 1) 7 [some (iR (some l0)), some (iI l1), some (iI l2), none] [] h =
 ((if l2 < 400 then
 xck h l0 15 <|
 kI (rn d 57 [iR (some l0), iI 280] h) fun x2 h1 =>
 (if x2 = 0 then
 some (o0, h1)
 else
 xgR h1 l0 15 0 fun x3 =>
 xB x3 fun a5 =>
 xgI h1 a5 19 6 fun x4 =>
 xgR h1 l0 15 0 fun x6 =>
 xB x6 fun a7 =>
 xck h1 a7 19 <|
 kV (rn d 84 [iR (some a7), iI 12, iI 0] h1) fun h8 =>
 xck h8 l0 15 <|
 kV (rn d 65 [iR (some l0), iI l1] h8) fun h9 =>
 xgR h9 l0 15 0 fun x10 =>
 xB x10 fun a11 =>
 xck h9 a11 19 <|
 kV (rn d 86 [iR (some a11), iI x4] h9) fun h12 =>
 lp d 64 n 7 [some (iR (some l0)), some (iI l1), some (iI (wr (l2 + 1))), none] [] h12)
 else
 some (o0, h))) := rfl
-- TownSundays$Reader.readBoth(I)V
theorem r_Rd_readBoth (d : Nat) (l0 : Nat) (l1 : Int) (h : IH) : rn (d + 1) 65 [iR (some l0), iI l1] h = lp d 65 (999999 + 1) 0 [some (iR (some l0)), some (iI l1), none, none] [] h := rn_lp rfl rfl
set_option maxRecDepth 20000 in
set_option maxHeartbeats 4000000 in
theorem e_Rd_readBoth (d n : Nat) (l0 : Nat) (l1 : Int) (h : IH) :
 lp d 65 (n + 1) 0 [some (iR (some l0)), some (iI l1), none, none] [] h =
 (xck h l0 15 <|
 kV (rn d 66 [iR (some l0), iI l1] h) fun h1 =>
 lp d 65 n 7 [some (iR (some l0)), some (iI l1), some (iI 0), none] [] h1) := rfl
set_option maxRecDepth 20000 in
set_option maxHeartbeats 4000000 in
theorem e_Rd_readBoth_7 (d n : Nat) (l0 : Nat) (l1 : Int) (l2 : Int) (h : IH) :
 lp d 65 (n + 1) 7 [some (iR (some l0)), some (iI l1), some (iI l2), none] [] h =
 ((if l2 < 400 then
 xck h l0 15 <|
 kI (rn d 57 [iR (some l0), iI 281] h) fun x2 h1 =>
 (if x2 = 0 then
 some (o0, h1)
 else
 xgR h1 l0 15 0 fun x3 =>
 xB x3 fun a5 =>
 xgI h1 a5 19 6 fun x4 =>
 xgR h1 l0 15 0 fun x6 =>
 xB x6 fun a7 =>
 xck h1 a7 19 <|
 kV (rn d 84 [iR (some a7), iI 11, iI 0] h1) fun h8 =>
 xck h8 l0 15 <|
 kV (rn d 66 [iR (some l0), iI l1] h8) fun h9 =>
 xgR h9 l0 15 0 fun x10 =>
 xB x10 fun a11 =>
 xck h9 a11 19 <|
 kV (rn d 86 [iR (some a11), iI x4] h9) fun h12 =>
 lp d 65 n 7 [some (iR (some l0)), some (iI l1), some (iI (wr (l2 + 1))), none] [] h12)
 else
 some (o0, h))) := rfl
-- TownSundays$Reader.readPlain(I)V
theorem r_Rd_readPlain (d : Nat) (l0 : Nat) (l1 : Int) (h : IH) : rn (d + 1) 66 [iR (some l0), iI l1] h = lp d 66 (999999 + 1) 0 [some (iR (some l0)), some (iI l1), none, none] [] h := rn_lp rfl rfl
set_option maxRecDepth 20000 in
set_option maxHeartbeats 4000000 in
theorem e_Rd_readPlain (d n : Nat) (l0 : Nat) (l1 : Int) (h : IH) :
 lp d 66 (n + 1) 0 [some (iR (some l0)), some (iI l1), none, none] [] h =
 (lp d 66 n 4 [some (iR (some l0)), some (iI l1), some (iI 0), some (iI 0)] [] h) := rfl
set_option maxRecDepth 20000 in
set_option maxHeartbeats 4000000 in
theorem e_Rd_readPlain_4 (d n : Nat) (l0 : Nat) (l1 : Int) (l2 : Int) (l3 : Int) (h : IH) :
 lp d 66 (n + 1) 4 [some (iR (some l0)), some (iI l1), some (iI l2), some (iI l3)] [] h =
 ((if l3 < 400 then
 xck h l0 15 <|
 kI (rn d 57 [iR (some l0), iI 282] h) fun x2 h1 =>
 (if x2 = 0 then
 lp d 66 n 37 [some (iR (some l0)), some (iI l1), some (iI l2), none] [] h1
 else
 (if l2 = 0 then
 lp d 66 n 4 [some (iR (some l0)), some (iI l1), some (iI 1), some (iI (wr (l3 + 1)))] [] h1
 else
 lp d 66 n 4 [some (iR (some l0)), some (iI l1), some (iI 0), some (iI (wr (l3 + 1)))] [] h1))
 else
 lp d 66 n 37 [some (iR (some l0)), some (iI l1), some (iI l2), none] [] h)) := rfl
set_option maxRecDepth 20000 in
set_option maxHeartbeats 4000000 in
theorem e_Rd_readPlain_37 (d n : Nat) (l0 : Nat) (l1 : Int) (l2 : Int) (h : IH) :
 lp d 66 (n + 1) 37 [some (iR (some l0)), some (iI l1), some (iI l2), none] [] h =
 ((if l1 < 8 then
 xck h l0 15 <|
 kI (rn d 57 [iR (some l0), iI 40] h) fun x2 h1 =>
 (if x2 = 0 then
 xck h1 l0 15 <|
 kV (rn d 67 [iR (some l0), iI l1] h1) fun h3 =>
 xgI h3 l0 15 5 fun x4 =>
 (if x4 = 60 then
 lp d 66 n 110 [some (iR (some l0)), some (iI l1), some (iI l2), none] [iI 7] h3
 else
 xgI h3 l0 15 5 fun x5 =>
 (if x5 = 62 then
 lp d 66 n 110 [some (iR (some l0)), some (iI l1), some (iI l2), none] [iI 8] h3
 else
 lp d 66 n 110 [some (iR (some l0)), some (iI l1), some (iI l2), none] [iI 9] h3))
 else
 xck h1 l0 15 <|
 kV (rn d 64 [iR (some l0), iI (wr (l1 + 1))] h1) fun h6 =>
 xck h6 l0 15 <|
 kI (rn d 57 [iR (some l0), iI 41] h6) fun x8 h7 =>
 (if x8 = 0 then
 xck h7 l0 15 <|
 kV (rn d 56 [iR (some l0)] h7) fun h9 =>
 (if l2 = 0 then
 some (o0, h9)
 else
 xgR h9 l0 15 0 fun x10 =>
 xB x10 fun a11 =>
 xck h9 a11 19 <|
 kV (rn d 84 [iR (some a11), iI 10, iI 0] h9) fun h12 =>
 some (o0, h12))
 else
 (if l2 = 0 then
 some (o0, h7)
 else
 xgR h7 l0 15 0 fun x13 =>
 xB x13 fun a14 =>
 xck h7 a14 19 <|
 kV (rn d 84 [iR (some a14), iI 10, iI 0] h7) fun h15 =>
 some (o0, h15))))
 else
 xck h l0 15 <|
 kV (rn d 67 [iR (some l0), iI l1] h) fun h16 =>
 xgI h16 l0 15 5 fun x17 =>
 (if x17 = 60 then
 lp d 66 n 110 [some (iR (some l0)), some (iI l1), some (iI l2), none] [iI 7] h16
 else
 xgI h16 l0 15 5 fun x18 =>
 (if x18 = 62 then
 lp d 66 n 110 [some (iR (some l0)), some (iI l1), some (iI l2), none] [iI 8] h16
 else
 lp d 66 n 110 [some (iR (some l0)), some (iI l1), some (iI l2), none] [iI 9] h16)))) := rfl
set_option maxRecDepth 20000 in
set_option maxHeartbeats 4000000 in
theorem e_Rd_readPlain_110 (d n : Nat) (l0 : Nat) (l1 : Int) (l2 : Int) (s0 : Int) (h : IH) :
 lp d 66 (n + 1) 110 [some (iR (some l0)), some (iI l1), some (iI l2), none] [iI s0] h =
 (xgI h l0 15 5 fun x1 =>
 (if x1 = 60 then
 lp d 66 n 138 [some (iR (some l0)), some (iI l1), some (iI l2), some (iI s0)] [] h
 else
 xgI h l0 15 5 fun x2 =>
 (if x2 = 62 then
 lp d 66 n 138 [some (iR (some l0)), some (iI l1), some (iI l2), some (iI s0)] [] h
 else
 xgI h l0 15 5 fun x3 =>
 (if x3 = 61 then
 lp d 66 n 138 [some (iR (some l0)), some (iI l1), some (iI l2), some (iI s0)] [] h
 else
 xck h l0 15 <|
 kV (rn d 56 [iR (some l0)] h) fun h4 =>
 xck h4 l0 15 <|
 kV (rn d 67 [iR (some l0), iI l1] h4) fun h5 =>
 xgR h5 l0 15 0 fun x6 =>
 xB x6 fun a7 =>
 xck h5 a7 19 <|
 kV (rn d 84 [iR (some a7), iI s0, iI 0] h5) fun h8 =>
 (if l2 = 0 then
 some (o0, h8)
 else
 xgR h8 l0 15 0 fun x9 =>
 xB x9 fun a10 =>
 xck h8 a10 19 <|
 kV (rn d 84 [iR (some a10), iI 10, iI 0] h8) fun h11 =>
 some (o0, h11)))))) := rfl
set_option maxRecDepth 20000 in
set_option maxHeartbeats 4000000 in
theorem e_Rd_readPlain_138 (d n : Nat) (l0 : Nat) (l1 : Int) (l2 : Int) (l3 : Int) (h : IH) :
 lp d 66 (n + 1) 138 [some (iR (some l0)), some (iI l1), some (iI l2), some (iI l3)] [] h =
 (xck h l0 15 <|
 kV (rn d 54 [iR (some l0)] h) fun h1 =>
 xck h1 l0 15 <|
 kV (rn d 67 [iR (some l0), iI l1] h1) fun h2 =>
 xgR h2 l0 15 0 fun x3 =>
 xB x3 fun a4 =>
 xck h2 a4 19 <|
 kV (rn d 84 [iR (some a4), iI l3, iI 0] h2) fun h5 =>
 (if l2 = 0 then
 some (o0, h5)
 else
 xgR h5 l0 15 0 fun x6 =>
 xB x6 fun a7 =>
 xck h5 a7 19 <|
 kV (rn d 84 [iR (some a7), iI 10, iI 0] h5) fun h8 =>
 some (o0, h8))) := rfl
-- TownSundays$Reader.readSum(I)V
theorem r_Rd_readSum (d : Nat) (l0 : Nat) (l1 : Int) (h : IH) : rn (d + 1) 67 [iR (some l0), iI l1] h = lp d 67 (999999 + 1) 0 [some (iR (some l0)), some (iI l1), none, none] [] h := rn_lp rfl rfl
set_option maxRecDepth 20000 in
set_option maxHeartbeats 4000000 in
theorem e_Rd_readSum (d n : Nat) (l0 : Nat) (l1 : Int) (h : IH) :
 lp d 67 (n + 1) 0 [some (iR (some l0)), some (iI l1), none, none] [] h =
 (xck h l0 15 <|
 kV (rn d 68 [iR (some l0), iI l1] h) fun h1 =>
 lp d 67 n 7 [some (iR (some l0)), some (iI l1), some (iI 0), none] [] h1) := rfl
set_option maxRecDepth 20000 in
set_option maxHeartbeats 4000000 in
theorem e_Rd_readSum_7 (d n : Nat) (l0 : Nat) (l1 : Int) (l2 : Int) (h : IH) :
 lp d 67 (n + 1) 7 [some (iR (some l0)), some (iI l1), some (iI l2), none] [] h =
 ((if l2 < 400 then
 xgI h l0 15 5 fun x1 =>
 (if x1 = 43 then
 lp d 67 n 32 [some (iR (some l0)), some (iI l1), some (iI l2), none] [] h
 else
 xgI h l0 15 5 fun x2 =>
 (if x2 = 45 then
 lp d 67 n 32 [some (iR (some l0)), some (iI l1), some (iI l2), none] [] h
 else
 some (o0, h)))
 else
 some (o0, h))) := rfl
set_option maxRecDepth 20000 in
set_option maxHeartbeats 4000000 in
theorem e_Rd_readSum_32 (d n : Nat) (l0 : Nat) (l1 : Int) (l2 : Int) (h : IH) :
 lp d 67 (n + 1) 32 [some (iR (some l0)), some (iI l1), some (iI l2), none] [] h =
 (xgI h l0 15 5 fun x1 =>
 (if x1 = 43 then
 xck h l0 15 <|
 kV (rn d 54 [iR (some l0)] h) fun h2 =>
 xck h2 l0 15 <|
 kV (rn d 68 [iR (some l0), iI l1] h2) fun h3 =>
 xgR h3 l0 15 0 fun x4 =>
 xB x4 fun a5 =>
 xck h3 a5 19 <|
 kV (rn d 84 [iR (some a5), iI 2, iI 0] h3) fun h6 =>
 lp d 67 n 7 [some (iR (some l0)), some (iI l1), some (iI (wr (l2 + 1))), none] [] h6
 else
 xck h l0 15 <|
 kV (rn d 54 [iR (some l0)] h) fun h7 =>
 xck h7 l0 15 <|
 kV (rn d 68 [iR (some l0), iI l1] h7) fun h8 =>
 xgR h8 l0 15 0 fun x9 =>
 xB x9 fun a10 =>
 xck h8 a10 19 <|
 kV (rn d 84 [iR (some a10), iI 3, iI 0] h8) fun h11 =>
 lp d 67 n 7 [some (iR (some l0)), some (iI l1), some (iI (wr (l2 + 1))), none] [] h11)) := rfl
-- TownSundays$Reader.readTerm(I)V
theorem r_Rd_readTerm (d : Nat) (l0 : Nat) (l1 : Int) (h : IH) : rn (d + 1) 68 [iR (some l0), iI l1] h = lp d 68 (999999 + 1) 0 [some (iR (some l0)), some (iI l1), none, none] [] h := rn_lp rfl rfl
set_option maxRecDepth 20000 in
set_option maxHeartbeats 4000000 in
theorem e_Rd_readTerm (d n : Nat) (l0 : Nat) (l1 : Int) (h : IH) :
 lp d 68 (n + 1) 0 [some (iR (some l0)), some (iI l1), none, none] [] h =
 (xck h l0 15 <|
 kV (rn d 69 [iR (some l0), iI l1] h) fun h1 =>
 lp d 68 n 7 [some (iR (some l0)), some (iI l1), some (iI 0), none] [] h1) := rfl
set_option maxRecDepth 20000 in
set_option maxHeartbeats 4000000 in
theorem e_Rd_readTerm_7 (d n : Nat) (l0 : Nat) (l1 : Int) (l2 : Int) (h : IH) :
 lp d 68 (n + 1) 7 [some (iR (some l0)), some (iI l1), some (iI l2), none] [] h =
 ((if l2 < 400 then
 xgI h l0 15 5 fun x1 =>
 (if x1 = 42 then
 lp d 68 n 41 [some (iR (some l0)), some (iI l1), some (iI l2), none] [] h
 else
 xgI h l0 15 5 fun x2 =>
 (if x2 = 47 then
 lp d 68 n 41 [some (iR (some l0)), some (iI l1), some (iI l2), none] [] h
 else
 xgI h l0 15 5 fun x3 =>
 (if x3 = 37 then
 lp d 68 n 41 [some (iR (some l0)), some (iI l1), some (iI l2), none] [] h
 else
 some (o0, h))))
 else
 some (o0, h))) := rfl
set_option maxRecDepth 20000 in
set_option maxHeartbeats 4000000 in
theorem e_Rd_readTerm_41 (d n : Nat) (l0 : Nat) (l1 : Int) (l2 : Int) (h : IH) :
 lp d 68 (n + 1) 41 [some (iR (some l0)), some (iI l1), some (iI l2), none] [] h =
 (xgI h l0 15 5 fun x1 =>
 (if x1 = 42 then
 lp d 68 n 69 [some (iR (some l0)), some (iI l1), some (iI l2), none] [iI 4] h
 else
 xgI h l0 15 5 fun x2 =>
 (if x2 = 47 then
 lp d 68 n 69 [some (iR (some l0)), some (iI l1), some (iI l2), none] [iI 5] h
 else
 lp d 68 n 69 [some (iR (some l0)), some (iI l1), some (iI l2), none] [iI 6] h))) := rfl
set_option maxRecDepth 20000 in
set_option maxHeartbeats 4000000 in
theorem e_Rd_readTerm_69 (d n : Nat) (l0 : Nat) (l1 : Int) (l2 : Int) (s0 : Int) (h : IH) :
 lp d 68 (n + 1) 69 [some (iR (some l0)), some (iI l1), some (iI l2), none] [iI s0] h =
 (xck h l0 15 <|
 kV (rn d 54 [iR (some l0)] h) fun h1 =>
 xck h1 l0 15 <|
 kV (rn d 69 [iR (some l0), iI l1] h1) fun h2 =>
 xgR h2 l0 15 0 fun x3 =>
 xB x3 fun a4 =>
 xck h2 a4 19 <|
 kV (rn d 84 [iR (some a4), iI s0, iI 0] h2) fun h5 =>
 lp d 68 n 7 [some (iR (some l0)), some (iI l1), some (iI (wr (l2 + 1))), none] [] h5) := rfl
-- TownSundays$Reader.readPart(I)V
theorem r_Rd_readPart (d : Nat) (l0 : Nat) (l1 : Int) (h : IH) : rn (d + 1) 69 [iR (some l0), iI l1] h = lp d 69 (999999 + 1) 0 [some (iR (some l0)), some (iI l1), none, none] [] h := rn_lp rfl rfl
set_option maxRecDepth 20000 in
set_option maxHeartbeats 4000000 in
theorem e_Rd_readPart (d n : Nat) (l0 : Nat) (l1 : Int) (h : IH) :
 lp d 69 (n + 1) 0 [some (iR (some l0)), some (iI l1), none, none] [] h =
 (xgI h l0 15 5 fun x1 =>
 (if x1 = 91 then
 (if l1 < 8 then
 xck h l0 15 <|
 kV (rn d 54 [iR (some l0)] h) fun h2 =>
 xck h2 l0 15 <|
 kV (rn d 67 [iR (some l0), iI (wr (l1 + 1))] h2) fun h3 =>
 xgI h3 l0 15 5 fun x4 =>
 (if x4 = 93 then
 xck h3 l0 15 <|
 kV (rn d 54 [iR (some l0)] h3) fun h5 =>
 some (o0, h5)
 else
 xck h3 l0 15 <|
 kV (rn d 56 [iR (some l0)] h3) fun h6 =>
 some (o0, h6))
 else
 lp d 69 n 47 [some (iR (some l0)), none, none, none] [] h)
 else
 lp d 69 n 47 [some (iR (some l0)), none, none, none] [] h)) := rfl
set_option maxRecDepth 20000 in
set_option maxHeartbeats 4000000 in
theorem e_Rd_readPart_47 (d n : Nat) (l0 : Nat) (h : IH) :
 lp d 69 (n + 1) 47 [some (iR (some l0)), none, none, none] [] h =
 (xgI h l0 15 9 fun x1 =>
 xpI h l0 15 9 (wr (x1 + 1)) fun h2 =>
 xck h2 l0 15 <|
 kI (rn d 58 [iR (some l0), iI 0, iI 1000] h2) fun x4 h3 =>
 (if x4 = 0 then
 xgI h3 l0 15 4 fun x5 =>
 (if x5 = 0 then
 xck h3 l0 15 <|
 kI (rn d 70 [iR (some l0)] h3) fun x7 h6 =>
 lp d 69 n 95 [some (iR (some l0)), none, some (iI x4), none] [iI x7] h6
 else
 xck h3 l0 15 <|
 kI (rn d 71 [iR (some l0)] h3) fun x9 h8 =>
 lp d 69 n 95 [some (iR (some l0)), none, some (iI x4), none] [iI x9] h8)
 else
 xgI h3 l0 15 8 fun x10 =>
 lp d 69 n 95 [some (iR (some l0)), none, some (iI x4), none] [iI x10] h3)) := rfl
set_option maxRecDepth 20000 in
set_option maxHeartbeats 4000000 in
theorem e_Rd_readPart_95 (d n : Nat) (l0 : Nat) (l2 : Int) (s0 : Int) (h : IH) :
 lp d 69 (n + 1) 95 [some (iR (some l0)), none, some (iI l2), none] [iI s0] h =
 ((if l2 = 0 then
 xgI h l0 15 4 fun x1 =>
 (if x1 = 0 then
 lp d 69 n 146 [some (iR (some l0)), none, some (iI l2), some (iI s0)] [] h
 else
 (if s0 < 4 then
 lp d 69 n 146 [some (iR (some l0)), none, some (iI l2), some (iI s0)] [] h
 else
 xgI h l0 15 9 fun x2 =>
 (if x2 ≤ 50 then
 xck h l0 15 <|
 kV (rn d 54 [iR (some l0)] h) fun h3 =>
 xck h3 l0 15 <|
 kI (rn d 58 [iR (some l0), iI 0, iI 6] h3) fun x5 h4 =>
 (if x5 = 0 then
 lp d 69 n 146 [some (iR (some l0)), none, some (iI l2), some (iI (-1))] [] h4
 else
 xgI h4 l0 15 8 fun x6 =>
 lp d 69 n 146 [some (iR (some l0)), none, some (iI l2), some (iI (wr (s0 + x6)))] [] h4)
 else
 lp d 69 n 146 [some (iR (some l0)), none, some (iI l2), some (iI s0)] [] h)))
 else
 lp d 69 n 146 [some (iR (some l0)), none, some (iI l2), some (iI s0)] [] h)) := rfl
set_option maxRecDepth 20000 in
set_option maxHeartbeats 4000000 in
theorem e_Rd_readPart_146 (d n : Nat) (l0 : Nat) (l2 : Int) (l3 : Int) (h : IH) :
 lp d 69 (n + 1) 146 [some (iR (some l0)), none, some (iI l2), some (iI l3)] [] h =
 ((if l3 = (-1) then
 xck h l0 15 <|
 kV (rn d 56 [iR (some l0)] h) fun h1 =>
 some (o0, h1)
 else
 xgI h l0 15 9 fun x2 =>
 (if x2 ≤ 50 then
 xgR h l0 15 0 fun x3 =>
 (if l2 = 0 then
 xB x3 fun a4 =>
 xck h a4 19 <|
 kV (rn d 84 [iR (some a4), iI 1, iI l3] h) fun h5 =>
 xck h5 l0 15 <|
 kV (rn d 54 [iR (some l0)] h5) fun h6 =>
 some (o0, h6)
 else
 xB x3 fun a7 =>
 xck h a7 19 <|
 kV (rn d 84 [iR (some a7), iI 0, iI l3] h) fun h8 =>
 xck h8 l0 15 <|
 kV (rn d 54 [iR (some l0)] h8) fun h9 =>
 some (o0, h9))
 else
 xck h l0 15 <|
 kV (rn d 56 [iR (some l0)] h) fun h10 =>
 some (o0, h10)))) := rfl
-- TownSundays$Reader.lawWord()I
theorem r_Rd_lawWord (d : Nat) (l0 : Nat) (h : IH) : rn (d + 1) 70 [iR (some l0)] h = lp d 70 (999999 + 1) 0 [some (iR (some l0))] [] h := rn_lp rfl rfl
set_option maxRecDepth 20000 in
set_option maxHeartbeats 4000000 in
theorem e_Rd_lawWord (d n : Nat) (l0 : Nat) (h : IH) :
 lp d 70 (n + 1) 0 [some (iR (some l0))] [] h =
 (xgI h l0 15 5 fun x1 =>
 (if x1 < 256 then
 some (oI (-1), h)
 else
 xgI h l0 15 5 fun x2 =>
 (if x2 ≤ 264 then
 xgI h l0 15 5 fun x3 =>
 some (oI (wr (x3 - 256)), h)
 else
 some (oI (-1), h)))) := rfl
-- TownSundays$Reader.ordersWord()I
theorem r_Rd_ordersWord (d : Nat) (l0 : Nat) (h : IH) : rn (d + 1) 71 [iR (some l0)] h = lp d 71 (999999 + 1) 0 [some (iR (some l0))] [] h := rn_lp rfl rfl
set_option maxRecDepth 20000 in
set_option maxHeartbeats 4000000 in
theorem e_Rd_ordersWord (d n : Nat) (l0 : Nat) (h : IH) :
 lp d 71 (n + 1) 0 [some (iR (some l0))] [] h =
 (xgI h l0 15 5 fun x1 =>
 (if x1 = 263 then
 some (oI 0, h)
 else
 xgI h l0 15 5 fun x2 =>
 (if x2 = 265 then
 some (oI 1, h)
 else
 xgI h l0 15 5 fun x3 =>
 (if x3 = 266 then
 some (oI 2, h)
 else
 xgI h l0 15 5 fun x4 =>
 (if x4 = 267 then
 some (oI 3, h)
 else
 xgI h l0 15 5 fun x5 =>
 (if x5 = 268 then
 some (oI 4, h)
 else
 xgI h l0 15 5 fun x6 =>
 (if x6 = 258 then
 some (oI 11, h)
 else
 some (oI (-1), h)))))))) := rfl
-- TownSundays$Reckoner.init()V
theorem r_Rk_init (d : Nat) (l0 : Nat) (h : IH) : rn (d + 1) 72 [iR (some l0)] h = lp d 72 (999999 + 1) 0 [some (iR (some l0))] [] h := rn_lp rfl rfl
set_option maxRecDepth 20000 in
set_option maxHeartbeats 4000000 in
theorem e_Rk_init (d n : Nat) (l0 : Nat) (h : IH) :
 lp d 72 (n + 1) 0 [some (iR (some l0))] [] h =
 (xnA h 0 64 fun a1 h2 =>
 xpR h2 l0 16 0 (some a1) fun h3 =>
 some (o0, h3)) := rfl
-- TownSundays$Reckoner.reckon(LTownSundays$Text;I[I)I
theorem r_Rk_reckon (d : Nat) (l0 : Nat) (l1 : Option Nat) (l2 : Int) (l3 : Option Nat) (h : IH) : rn (d + 1) 73 [iR (some l0), iR l1, iI l2, iR l3] h = lp d 73 (999999 + 1) 0 [some (iR (some l0)), some (iR l1), some (iI l2), some (iR l3), none, none, none, none, none] [] h := rn_lp rfl rfl
set_option maxRecDepth 20000 in
set_option maxHeartbeats 4000000 in
theorem e_Rk_reckon (d n : Nat) (l0 : Nat) (l1 : Option Nat) (l2 : Int) (l3 : Option Nat) (h : IH) :
 lp d 73 (n + 1) 0 [some (iR (some l0)), some (iR l1), some (iI l2), some (iR l3), none, none, none, none, none] [] h =
 (xB l1 fun a2 =>
 xgR h a2 19 5 fun x1 =>
 xB x1 fun a4 =>
 xaI h a4 l2 fun x3 =>
 xB l1 fun a6 =>
 xgI h a6 19 6 fun x5 =>
 xB l1 fun a8 =>
 xgR h a8 19 4 fun x7 =>
 xB x7 fun a10 =>
 xaI h a10 l2 fun x9 =>
 lp d 73 n 26 [some (iR (some l0)), some (iR l1), none, some (iR l3), some (iI 0), some (iI (imin x3 x5)), some (iI x9), none, none] [] h) := rfl
set_option maxRecDepth 20000 in
set_option maxHeartbeats 4000000 in
theorem e_Rk_reckon_26 (d n : Nat) (l0 : Nat) (l1 : Option Nat) (l3 : Option Nat) (l4 : Int) (l5 : Int) (l6 : Int) (h : IH) :
 lp d 73 (n + 1) 26 [some (iR (some l0)), some (iR l1), none, some (iR l3), some (iI l4), some (iI l5), some (iI l6), none, none] [] h =
 ((if l6 < l5 then
 xB l1 fun a2 =>
 xgR h a2 19 0 fun x1 =>
 xB x1 fun a4 =>
 xaI h a4 l6 fun x3 =>
 xB l1 fun a6 =>
 xgR h a6 19 1 fun x5 =>
 xB x5 fun a8 =>
 xaI h a8 l6 fun x7 =>
 (if x3 = 0 then
 lp d 73 n 62 [some (iR (some l0)), some (iR l1), none, some (iR l3), some (iI l4), some (iI l5), some (iI l6), some (iI x3), some (iI x7)] [] h
 else
 (if x3 = 1 then
 lp d 73 n 62 [some (iR (some l0)), some (iR l1), none, some (iR l3), some (iI l4), some (iI l5), some (iI l6), some (iI x3), some (iI x7)] [] h
 else
 (if x3 < 10 then
 lp d 73 n 129 [some (iR (some l0)), some (iR l1), none, some (iR l3), some (iI l4), some (iI l5), some (iI l6), some (iI x3), some (iI x7)] [iI 2, iI l4] h
 else
 lp d 73 n 129 [some (iR (some l0)), some (iR l1), none, some (iR l3), some (iI l4), some (iI l5), some (iI l6), some (iI x3), some (iI x7)] [iI 1, iI l4] h)))
 else
 (if l4 = 0 then
 some (oI 1, h)
 else
 xgR h l0 16 0 fun x9 =>
 xB x9 fun a11 =>
 xaI h a11 0 fun x10 =>
 some (oI x10, h)))) := rfl
set_option maxRecDepth 20000 in
set_option maxHeartbeats 4000000 in
theorem e_Rk_reckon_62 (d n : Nat) (l0 : Nat) (l1 : Option Nat) (l3 : Option Nat) (l4 : Int) (l5 : Int) (l6 : Int) (l7 : Int) (l8 : Int) (h : IH) :
 lp d 73 (n + 1) 62 [some (iR (some l0)), some (iR l1), none, some (iR l3), some (iI l4), some (iI l5), some (iI l6), some (iI l7), some (iI l8)] [] h =
 (xgR h l0 16 0 fun x1 =>
 xB x1 fun a3 =>
 xle h a3 fun x2 =>
 (if l4 < x2 then
 (if l7 = 1 then
 xB l3 fun a5 =>
 xle h a5 fun x4 =>
 (if l8 < x4 then
 xgR h l0 16 0 fun x6 =>
 (if l7 = 0 then
 xB x6 fun a8 =>
 xsI h a8 l4 l8 fun h7 =>
 lp d 73 n 109 [some (iR (some l0)), some (iR l1), none, some (iR l3), some (iI l4), some (iI l5), some (iI l6), none, none] [] h7
 else
 xB l3 fun a10 =>
 xaI h a10 l8 fun x9 =>
 xB x6 fun a12 =>
 xsI h a12 l4 x9 fun h11 =>
 lp d 73 n 109 [some (iR (some l0)), some (iR l1), none, some (iR l3), some (iI l4), some (iI l5), some (iI l6), none, none] [] h11)
 else
 some (oI (-2147483648), h))
 else
 xgR h l0 16 0 fun x13 =>
 (if l7 = 0 then
 xB x13 fun a15 =>
 xsI h a15 l4 l8 fun h14 =>
 lp d 73 n 109 [some (iR (some l0)), some (iR l1), none, some (iR l3), some (iI l4), some (iI l5), some (iI l6), none, none] [] h14
 else
 xB l3 fun a17 =>
 xaI h a17 l8 fun x16 =>
 xB x13 fun a19 =>
 xsI h a19 l4 x16 fun h18 =>
 lp d 73 n 109 [some (iR (some l0)), some (iR l1), none, some (iR l3), some (iI l4), some (iI l5), some (iI l6), none, none] [] h18))
 else
 some (oI (-2147483648), h))) := rfl
set_option maxRecDepth 20000 in
set_option maxHeartbeats 4000000 in
theorem e_Rk_reckon_109 (d n : Nat) (l0 : Nat) (l1 : Option Nat) (l3 : Option Nat) (l4 : Int) (l5 : Int) (l6 : Int) (h : IH) :
 lp d 73 (n + 1) 109 [some (iR (some l0)), some (iR l1), none, some (iR l3), some (iI l4), some (iI l5), some (iI l6), none, none] [] h =
 (lp d 73 n 26 [some (iR (some l0)), some (iR l1), none, some (iR l3), some (iI (wr (l4 + 1))), some (iI l5), some (iI (wr (l6 + 1))), none, none] [] h) := rfl
set_option maxRecDepth 20000 in
set_option maxHeartbeats 4000000 in
theorem e_Rk_reckon_129 (d n : Nat) (l0 : Nat) (l1 : Option Nat) (l3 : Option Nat) (l4 : Int) (l5 : Int) (l6 : Int) (l7 : Int) (l8 : Int) (s0 : Int) (s1 : Int) (h : IH) :
 lp d 73 (n + 1) 129 [some (iR (some l0)), some (iR l1), none, some (iR l3), some (iI l4), some (iI l5), some (iI l6), some (iI l7), some (iI l8)] [iI s1, iI s0] h =
 ((if s0 < s1 then
 some (oI (-2147483648), h)
 else
 (if l7 = 10 then
 xgR h l0 16 0 fun x1 =>
 xgR h l0 16 0 fun x2 =>
 xB x2 fun a4 =>
 xaI h a4 (wr (l4 - 1)) fun x3 =>
 xB x1 fun a6 =>
 xsI h a6 (wr (l4 - 1)) (wr (1 - x3)) fun h5 =>
 lp d 73 n 26 [some (iR (some l0)), some (iR l1), none, some (iR l3), some (iI l4), some (iI l5), some (iI (wr (l6 + 1))), none, none] [] h5
 else
 (if l7 = 11 then
 lp d 73 n 179 [some (iR (some l0)), some (iR l1), none, some (iR l3), some (iI l4), some (iI l5), some (iI l6), some (iI l7), some (iI l8)] [] h
 else
 lp d 73 n 172 [some (iR (some l0)), some (iR l1), none, some (iR l3), some (iI l4), some (iI l5), some (iI l6), some (iI l7), some (iI l8)] [] h)))) := rfl
set_option maxRecDepth 20000 in
set_option maxHeartbeats 4000000 in
theorem e_Rk_reckon_172 (d n : Nat) (l0 : Nat) (l1 : Option Nat) (l3 : Option Nat) (l4 : Int) (l5 : Int) (l6 : Int) (l7 : Int) (l8 : Int) (h : IH) :
 lp d 73 (n + 1) 172 [some (iR (some l0)), some (iR l1), none, some (iR l3), some (iI l4), some (iI l5), some (iI l6), some (iI l7), some (iI l8)] [] h =
 ((if l7 = 12 then
 lp d 73 n 179 [some (iR (some l0)), some (iR l1), none, some (iR l3), some (iI l4), some (iI l5), some (iI l6), some (iI l7), some (iI l8)] [] h
 else
 lp d 73 n 227 [some (iR (some l0)), some (iR l1), none, some (iR l3), some (iI (wr (l4 + (-1)))), some (iI l5), some (iI l6), some (iI l7), none] [iR (some l0)] h)) := rfl
set_option maxRecDepth 20000 in
set_option maxHeartbeats 4000000 in
theorem e_Rk_reckon_179 (d n : Nat) (l0 : Nat) (l1 : Option Nat) (l3 : Option Nat) (l4 : Int) (l5 : Int) (l6 : Int) (l7 : Int) (l8 : Int) (h : IH) :
 lp d 73 (n + 1) 179 [some (iR (some l0)), some (iR l1), none, some (iR l3), some (iI l4), some (iI l5), some (iI l6), some (iI l7), some (iI l8)] [] h =
 (xgR h l0 16 0 fun x1 =>
 xB x1 fun a3 =>
 xaI h a3 (wr (l4 - 1)) fun x2 =>
 (if l7 = 11 then
 (if x2 = 0 then
 lp d 73 n 26 [some (iR (some l0)), some (iR l1), none, some (iR l3), some (iI l4), some (iI l5), some (iI (wr ((imax l6 (wr (l8 - 1))) + 1))), none, none] [] h
 else
 lp d 73 n 26 [some (iR (some l0)), some (iR l1), none, some (iR l3), some (iI (wr (l4 + (-1)))), some (iI l5), some (iI (wr (l6 + 1))), none, none] [] h)
 else
 (if x2 = 1 then
 lp d 73 n 26 [some (iR (some l0)), some (iR l1), none, some (iR l3), some (iI l4), some (iI l5), some (iI (wr ((imax l6 (wr (l8 - 1))) + 1))), none, none] [] h
 else
 lp d 73 n 26 [some (iR (some l0)), some (iR l1), none, some (iR l3), some (iI (wr (l4 + (-1)))), some (iI l5), some (iI (wr (l6 + 1))), none, none] [] h))) := rfl
set_option maxRecDepth 20000 in
set_option maxHeartbeats 4000000 in
theorem e_Rk_reckon_227 (d n : Nat) (l0 : Nat) (l1 : Option Nat) (l3 : Option Nat) (l4 : Int) (l5 : Int) (l6 : Int) (l7 : Int) (s0 : Nat) (h : IH) :
 lp d 73 (n + 1) 227 [some (iR (some l0)), some (iR l1), none, some (iR l3), some (iI l4), some (iI l5), some (iI l6), some (iI l7), none] [iR (some s0)] h =
 (xgR h s0 16 0 fun x1 =>
 xgR h l0 16 0 fun x2 =>
 xB x2 fun a4 =>
 xaI h a4 (wr (l4 - 1)) fun x3 =>
 xgR h l0 16 0 fun x5 =>
 xB x5 fun a7 =>
 xaI h a7 l4 fun x6 =>
 kI (rn d 74 [iI l7, iI x3, iI x6] h) fun x9 h8 =>
 xB x1 fun a11 =>
 xsI h8 a11 (wr (l4 - 1)) x9 fun h10 =>
 xgR h10 l0 16 0 fun x12 =>
 xB x12 fun a14 =>
 xaI h10 a14 (wr (l4 - 1)) fun x13 =>
 (if x13 = (-2147483648) then
 lp d 73 n 270 [none, none, none, none, none, none, none, none, none] [] h10
 else
 lp d 73 n 26 [some (iR (some l0)), some (iR l1), none, some (iR l3), some (iI l4), some (iI l5), some (iI (wr (l6 + 1))), none, none] [] h10)) := rfl
set_option maxRecDepth 20000 in
set_option maxHeartbeats 4000000 in
theorem e_Rk_reckon_270 (d n : Nat)  (h : IH) :
 lp d 73 (n + 1) 270 [none, none, none, none, none, none, none, none, none] [] h =
 (some (oI (-2147483648), h)) := rfl
-- TownSundays$Reckoner.combined(III)I
theorem r_Rk_combined (d : Nat) (l0 : Int) (l1 : Int) (l2 : Int) (h : IH) : rn (d + 1) 74 [iI l0, iI l1, iI l2] h = lp d 74 (999999 + 1) 0 [some (iI l0), some (iI l1), some (iI l2), none, none] [] h := rn_lp rfl rfl
set_option maxRecDepth 20000 in
set_option maxHeartbeats 4000000 in
theorem e_Rk_combined (d n : Nat) (l0 : Int) (l1 : Int) (l2 : Int) (h : IH) :
 lp d 74 (n + 1) 0 [some (iI l0), some (iI l1), some (iI l2), none, none] [] h =
 ((if l0 = 5 then
 (if l2 = 0 then
 some (oI (-2147483648), h)
 else
 lp d 74 n 18 [some (iI l0), some (iI l1), some (iI l2), none, none] [] h)
 else
 (if l0 = 6 then
 (if l2 = 0 then
 some (oI (-2147483648), h)
 else
 lp d 74 n 18 [some (iI l0), some (iI l1), some (iI l2), none, none] [] h)
 else
 lp d 74 n 18 [some (iI l0), some (iI l1), some (iI l2), none, none] [] h))) := rfl
set_option maxRecDepth 20000 in
set_option maxHeartbeats 4000000 in
theorem e_Rk_combined_18 (d n : Nat) (l0 : Int) (l1 : Int) (l2 : Int) (h : IH) :
 lp d 74 (n + 1) 18 [some (iI l0), some (iI l1), some (iI l2), none, none] [] h =
 ((if l0 = 2 then
 lp d 74 n 142 [none, none, none, some (iJ (wl (l1 + l2))), none] [] h
 else
 (if l0 = 3 then
 lp d 74 n 142 [none, none, none, some (iJ (wl (l1 - l2))), none] [] h
 else
 (if l0 = 4 then
 lp d 74 n 142 [none, none, none, some (iJ (wl (l1 * l2))), none] [] h
 else
 (if l0 = 5 then
 xdI l1 l2 fun x2 =>
 lp d 74 n 142 [none, none, none, some (iJ x2), none] [] h
 else
 (if l0 = 6 then
 xmI l1 l2 fun x1 =>
 lp d 74 n 142 [none, none, none, some (iJ x1), none] [] h
 else
 (if l0 = 7 then
 (if l1 < l2 then
 lp d 74 n 142 [none, none, none, some (iJ 1), none] [] h
 else
 lp d 74 n 142 [none, none, none, some (iJ 0), none] [] h)
 else
 (if l0 = 8 then
 (if l1 ≤ l2 then
 lp d 74 n 142 [none, none, none, some (iJ 0), none] [] h
 else
 lp d 74 n 142 [none, none, none, some (iJ 1), none] [] h)
 else
 (if l1 = l2 then
 lp d 74 n 142 [none, none, none, some (iJ 1), none] [] h
 else
 lp d 74 n 142 [none, none, none, some (iJ 0), none] [] h))))))))) := rfl
set_option maxRecDepth 20000 in
set_option maxHeartbeats 4000000 in
theorem e_Rk_combined_142 (d n : Nat) (l3 : Int) (h : IH) :
 lp d 74 (n + 1) 142 [none, none, none, some (iJ l3), none] [] h =
 ((if (lcmp l3 1000000000) ≤ 0 then
 (if (lcmp l3 (-1000000000)) < 0 then
 some (oI (-2147483648), h)
 else
 some (oI (wr l3), h))
 else
 some (oI (-2147483648), h))) := rfl
-- TownSundays$Runner.init()V
theorem r_Rn_init (d : Nat) (l0 : Nat) (h : IH) : rn (d + 1) 75 [iR (some l0)] h = lp d 75 (999999 + 1) 0 [some (iR (some l0))] [] h := rn_lp rfl rfl
set_option maxRecDepth 20000 in
set_option maxHeartbeats 4000000 in
theorem e_Rn_init (d n : Nat) (l0 : Nat) (h : IH) :
 lp d 75 (n + 1) 0 [some (iR (some l0))] [] h =
 (xpI h l0 17 0 0 fun h1 =>
 xpI h1 l0 17 1 (-1) fun h2 =>
 xnO h2 2 fun a3 h4 =>
 kV (rn d 20 [iR (some a3)] h4) fun h5 =>
 xpR h5 l0 17 2 (some a3) fun h6 =>
 xnA h6 0 18 fun a7 h8 =>
 xpR h8 l0 17 3 (some a7) fun h9 =>
 xnO h9 6 fun a10 h11 =>
 kV (rn d 72 [iR (some a10)] h11) fun h12 =>
 xpR h12 l0 17 4 (some a10) fun h13 =>
 some (o0, h13)) := rfl
-- TownSundays$Runner.runAll(LTownSundays$Text;LTownSundays$Land;LTownSundays$Past;)I
theorem r_Rn_runAll (d : Nat) (l0 : Nat) (l1 : Option Nat) (l2 : Option Nat) (l3 : Option Nat) (h : IH) : rn (d + 1) 76 [iR (some l0), iR l1, iR l2, iR l3] h = lp d 76 (999999 + 1) 0 [some (iR (some l0)), some (iR l1), some (iR l2), some (iR l3), none, none] [] h := rn_lp rfl rfl
set_option maxRecDepth 20000 in
set_option maxHeartbeats 4000000 in
theorem e_Rn_runAll (d n : Nat) (l0 : Nat) (l1 : Option Nat) (l2 : Option Nat) (l3 : Option Nat) (h : IH) :
 lp d 76 (n + 1) 0 [some (iR (some l0)), some (iR l1), some (iR l2), some (iR l3), none, none] [] h =
 (xpI h l0 17 0 0 fun h1 =>
 xpI h1 l0 17 1 (-1) fun h2 =>
 lp d 76 n 13 [some (iR (some l0)), some (iR l1), some (iR l2), some (iR l3), some (iI 0), none] [] h2) := rfl
set_option maxRecDepth 20000 in
set_option maxHeartbeats 4000000 in
theorem e_Rn_runAll_13 (d n : Nat) (l0 : Nat) (l1 : Option Nat) (l2 : Option Nat) (l3 : Option Nat) (l4 : Int) (h : IH) :
 lp d 76 (n + 1) 13 [some (iR (some l0)), some (iR l1), some (iR l2), some (iR l3), some (iI l4), none] [] h =
 (xB l1 fun a2 =>
 xgI h a2 19 7 fun x1 =>
 (if l4 < x1 then
 lp d 76 n 25 [some (iR (some l0)), some (iR l1), some (iR l2), some (iR l3), some (iI l4), some (iI 0)] [] h
 else
 some (oI (-1), h))) := rfl
set_option maxRecDepth 20000 in
set_option maxHeartbeats 4000000 in
theorem e_Rn_runAll_25 (d n : Nat) (l0 : Nat) (l1 : Option Nat) (l2 : Option Nat) (l3 : Option Nat) (l4 : Int) (l5 : Int) (h : IH) :
 lp d 76 (n + 1) 25 [some (iR (some l0)), some (iR l1), some (iR l2), some (iR l3), some (iI l4), some (iI l5)] [] h =
 (xB l1 fun a2 =>
 xgR h a2 19 3 fun x1 =>
 xB x1 fun a4 =>
 xaI h a4 l4 fun x3 =>
 (if l5 < x3 then
 xck h l0 17 <|
 kI (rn d 77 [iR (some l0), iR l1, iI l4, iR l2, iR l3] h) fun x6 h5 =>
 (if x6 = 0 then
 some (oI l4, h5)
 else
 lp d 76 n 25 [some (iR (some l0)), some (iR l1), some (iR l2), some (iR l3), some (iI l4), some (iI (wr (l5 + 1)))] [] h5)
 else
 lp d 76 n 13 [some (iR (some l0)), some (iR l1), some (iR l2), some (iR l3), some (iI (wr (l4 + 1))), none] [] h)) := rfl
-- TownSundays$Runner.runOnce(LTownSundays$Text;ILTownSundays$Land;LTownSundays$Past;)Z
theorem r_Rn_runOnce (d : Nat) (l0 : Nat) (l1 : Option Nat) (l2 : Int) (l3 : Option Nat) (l4 : Option Nat) (h : IH) : rn (d + 1) 77 [iR (some l0), iR l1, iI l2, iR l3, iR l4] h = lp d 77 (999999 + 1) 0 [some (iR (some l0)), some (iR l1), some (iI l2), some (iR l3), some (iR l4), none, none, none, none, none, none] [] h := rn_lp rfl rfl
set_option maxRecDepth 20000 in
set_option maxHeartbeats 4000000 in
theorem e_Rn_runOnce (d n : Nat) (l0 : Nat) (l1 : Option Nat) (l2 : Int) (l3 : Option Nat) (l4 : Option Nat) (h : IH) :
 lp d 77 (n + 1) 0 [some (iR (some l0)), some (iR l1), some (iI l2), some (iR l3), some (iR l4), none, none, none, none, none, none] [] h =
 (xck h l0 17 <|
 kV (rn d 78 [iR (some l0), iR l3] h) fun h1 =>
 xgR h1 l0 17 4 fun x2 =>
 xgR h1 l0 17 3 fun x3 =>
 xB x2 fun a4 =>
 xck h1 a4 16 <|
 kI (rn d 73 [iR (some a4), iR l1, iI (wr ((wr (l2 * 4)) + 3)), iR x3] h1) fun x6 h5 =>
 (if x6 = 1 then
 xgR h5 l0 17 4 fun x7 =>
 xgR h5 l0 17 3 fun x8 =>
 xB x7 fun a9 =>
 xck h5 a9 16 <|
 kI (rn d 73 [iR (some a9), iR l1, iI (wr (l2 * 4)), iR x8] h5) fun x11 h10 =>
 lp d 77 n 48 [some (iR (some l0)), some (iR l1), some (iI l2), some (iR l3), some (iR l4), some (iI (wr (l2 * 4))), some (iI x11), none, none, none, none] [] h10
 else
 xZ 1 h5)) := rfl
set_option maxRecDepth 20000 in
set_option maxHeartbeats 4000000 in
theorem e_Rn_runOnce_48 (d n : Nat) (l0 : Nat) (l1 : Option Nat) (l2 : Int) (l3 : Option Nat) (l4 : Option Nat) (l5 : Int) (l6 : Int) (h : IH) :
 lp d 77 (n + 1) 48 [some (iR (some l0)), some (iR l1), some (iI l2), some (iR l3), some (iR l4), some (iI l5), some (iI l6), none, none, none, none] [] h =
 (xgR h l0 17 4 fun x1 =>
 xgR h l0 17 3 fun x2 =>
 xB x1 fun a3 =>
 xck h a3 16 <|
 kI (rn d 73 [iR (some a3), iR l1, iI (wr (l5 + 1)), iR x2] h) fun x5 h4 =>
 xgR h4 l0 17 4 fun x6 =>
 xgR h4 l0 17 3 fun x7 =>
 xB x6 fun a8 =>
 xck h4 a8 16 <|
 kI (rn d 73 [iR (some a8), iR l1, iI (wr (l5 + 2)), iR x7] h4) fun x10 h9 =>
 (if l6 = (-2147483648) then
 xZ 0 h9
 else
 (if x5 = (-2147483648) then
 xZ 0 h9
 else
 lp d 77 n 98 [some (iR (some l0)), some (iR l1), some (iI l2), some (iR l3), some (iR l4), none, some (iI l6), some (iI x5), some (iI x10), none, none] [] h9))) := rfl
set_option maxRecDepth 20000 in
set_option maxHeartbeats 4000000 in
theorem e_Rn_runOnce_98 (d n : Nat) (l0 : Nat) (l1 : Option Nat) (l2 : Int) (l3 : Option Nat) (l4 : Option Nat) (l6 : Int) (l7 : Int) (l8 : Int) (h : IH) :
 lp d 77 (n + 1) 98 [some (iR (some l0)), some (iR l1), some (iI l2), some (iR l3), some (iR l4), none, some (iI l6), some (iI l7), some (iI l8), none, none] [] h =
 ((if l8 = (-2147483648) then
 xZ 0 h
 else
 xB l1 fun a2 =>
 xgR h a2 19 2 fun x1 =>
 xB x1 fun a4 =>
 xaI h a4 l2 fun x3 =>
 xB l4 fun a5 =>
 xck h a5 14 <|
 kV (rn d 49 [iR (some a5), iR l3, iI x3] h) fun h6 =>
 (if x3 = 0 then
 xgR h6 l0 17 2 fun x7 =>
 xB x7 fun a8 =>
 xck h6 a8 12 <|
 kI (rn d 21 [iR (some a8), iR l3, iI l6, iI l7] h6) fun x10 h9 =>
 lp d 77 n 195 [some (iR (some l0)), none, none, none, some (iR l4), none, none, none, none, some (iI x3), none] [iI x10] h9
 else
 (if x3 = 1 then
 lp d 77 n 149 [some (iR (some l0)), none, none, some (iR l3), some (iR l4), none, some (iI l6), some (iI l7), some (iI l8), some (iI x3), none] [] h6
 else
 (if x3 = 2 then
 xgR h6 l0 17 2 fun x11 =>
 xB x11 fun a12 =>
 xck h6 a12 12 <|
 kI (rn d 23 [iR (some a12), iR l3, iI l6, iI l7] h6) fun x14 h13 =>
 lp d 77 n 195 [some (iR (some l0)), none, none, none, some (iR l4), none, none, none, none, some (iI x3), none] [iI x14] h13
 else
 xgR h6 l0 17 2 fun x15 =>
 xB x15 fun a16 =>
 xck h6 a16 12 <|
 kI (rn d 24 [iR (some a16), iR l3] h6) fun x18 h17 =>
 lp d 77 n 195 [some (iR (some l0)), none, none, none, some (iR l4), none, none, none, none, some (iI x3), none] [iI x18] h17))))) := rfl
set_option maxRecDepth 20000 in
set_option maxHeartbeats 4000000 in
theorem e_Rn_runOnce_149 (d n : Nat) (l0 : Nat) (l3 : Option Nat) (l4 : Option Nat) (l6 : Int) (l7 : Int) (l8 : Int) (l9 : Int) (h : IH) :
 lp d 77 (n + 1) 149 [some (iR (some l0)), none, none, some (iR l3), some (iR l4), none, some (iI l6), some (iI l7), some (iI l8), some (iI l9), none] [] h =
 (xgR h l0 17 2 fun x1 =>
 xB x1 fun a2 =>
 xck h a2 12 <|
 kI (rn d 22 [iR (some a2), iR l3, iI l6, iI l7, iI l8] h) fun x4 h3 =>
 lp d 77 n 195 [some (iR (some l0)), none, none, none, some (iR l4), none, none, none, none, some (iI l9), none] [iI x4] h3) := rfl
set_option maxRecDepth 20000 in
set_option maxHeartbeats 4000000 in
theorem e_Rn_runOnce_195 (d n : Nat) (l0 : Nat) (l4 : Option Nat) (l9 : Int) (s0 : Int) (h : IH) :
 lp d 77 (n + 1) 195 [some (iR (some l0)), none, none, none, some (iR l4), none, none, none, none, some (iI l9), none] [iI s0] h =
 ((if s0 < 0 then
 xZ 0 h
 else
 xB l4 fun a1 =>
 xck h a1 14 <|
 kV (rn d 50 [iR (some a1)] h) fun h2 =>
 xgI h2 l0 17 0 fun x3 =>
 xpI h2 l0 17 0 (wr (x3 + 1)) fun h4 =>
 (if l9 = 3 then
 xpI h4 l0 17 1 s0 fun h5 =>
 xZ 1 h5
 else
 xZ 1 h4))) := rfl
