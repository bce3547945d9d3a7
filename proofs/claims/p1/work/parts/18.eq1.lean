/-! Equations of methods 78 to 154 (by program, wip/whole/gen17.py) -/
-- TownSundays$Runner.setWords(LTownSundays$Land;)V
theorem r_Rn_setWords (d : Nat) (l0 : Nat) (l1 : Option Nat) (h : IH) : rn (d + 1) 78 [iR (some l0), iR l1] h = lp d 78 (999999 + 1) 0 [some (iR (some l0)), some (iR l1), none] [] h := rn_lp rfl rfl
set_option maxRecDepth 20000 in
set_option maxHeartbeats 4000000 in
theorem e_Rn_setWords (d n : Nat) (l0 : Nat) (l1 : Option Nat) (h : IH) :
 lp d 78 (n + 1) 0 [some (iR (some l0)), some (iR l1), none] [] h =
 (xgR h l0 17 3 fun x1 =>
 xB l1 fun a3 =>
 xgR h a3 11 8 fun x2 =>
 xB x2 fun a5 =>
 xaI h a5 0 fun x4 =>
 xB x1 fun a7 =>
 xsI h a7 0 x4 fun h6 =>
 xgR h6 l0 17 3 fun x8 =>
 xgI h6 l0 17 0 fun x9 =>
 xB x8 fun a11 =>
 xsI h6 a11 1 x9 fun h10 =>
 xgR h10 l0 17 3 fun x12 =>
 xgI h10 l0 17 1 fun x13 =>
 xB x12 fun a15 =>
 xsI h10 a15 2 x13 fun h14 =>
 xgR h14 l0 17 3 fun x16 =>
 xB l1 fun a17 =>
 xck h14 a17 11 <|
 kI (rn d 18 [iR (some a17)] h14) fun x19 h18 =>
 xB x16 fun a21 =>
 xsI h18 a21 3 x19 fun h20 =>
 lp d 78 n 44 [some (iR (some l0)), some (iR l1), some (iI 0)] [] h20) := rfl
set_option maxRecDepth 20000 in
set_option maxHeartbeats 4000000 in
theorem e_Rn_setWords_44 (d n : Nat) (l0 : Nat) (l1 : Option Nat) (l2 : Int) (h : IH) :
 lp d 78 (n + 1) 44 [some (iR (some l0)), some (iR l1), some (iI l2)] [] h =
 ((if l2 < 7 then
 xgR h l0 17 3 fun x1 =>
 xB l1 fun a3 =>
 xgI h a3 11 0 fun x2 =>
 (if l2 < x2 then
 xB l1 fun a5 =>
 xgR h a5 11 1 fun x4 =>
 xB x4 fun a7 =>
 xaI h a7 l2 fun x6 =>
 xB x1 fun a9 =>
 xsI h a9 (wr (4 + l2)) x6 fun h8 =>
 xgR h8 l0 17 3 fun x10 =>
 xB l1 fun a12 =>
 xgI h8 a12 11 0 fun x11 =>
 (if l2 < x11 then
 xB l1 fun a14 =>
 xgR h8 a14 11 3 fun x13 =>
 xB x13 fun a16 =>
 xaI h8 a16 l2 fun x15 =>
 xB x10 fun a18 =>
 xsI h8 a18 (wr (11 + l2)) x15 fun h17 =>
 lp d 78 n 44 [some (iR (some l0)), some (iR l1), some (iI (wr (l2 + 1)))] [] h17
 else
 xB x10 fun a20 =>
 xsI h8 a20 (wr (11 + l2)) (-1) fun h19 =>
 lp d 78 n 44 [some (iR (some l0)), some (iR l1), some (iI (wr (l2 + 1)))] [] h19)
 else
 xB x1 fun a22 =>
 xsI h a22 (wr (4 + l2)) (-1) fun h21 =>
 xgR h21 l0 17 3 fun x23 =>
 xB l1 fun a25 =>
 xgI h21 a25 11 0 fun x24 =>
 (if l2 < x24 then
 xB l1 fun a27 =>
 xgR h21 a27 11 3 fun x26 =>
 xB x26 fun a29 =>
 xaI h21 a29 l2 fun x28 =>
 xB x23 fun a31 =>
 xsI h21 a31 (wr (11 + l2)) x28 fun h30 =>
 lp d 78 n 44 [some (iR (some l0)), some (iR l1), some (iI (wr (l2 + 1)))] [] h30
 else
 xB x23 fun a33 =>
 xsI h21 a33 (wr (11 + l2)) (-1) fun h32 =>
 lp d 78 n 44 [some (iR (some l0)), some (iR l1), some (iI (wr (l2 + 1)))] [] h32))
 else
 some (o0, h))) := rfl
-- TownSundays$Tape.init()V
theorem r_Tp_init (d : Nat) (l0 : Nat) (h : IH) : rn (d + 1) 79 [iR (some l0)] h = lp d 79 (999999 + 1) 0 [some (iR (some l0))] [] h := rn_lp rfl rfl
set_option maxRecDepth 20000 in
set_option maxHeartbeats 4000000 in
theorem e_Tp_init (d n : Nat) (l0 : Nat) (h : IH) :
 lp d 79 (n + 1) 0 [some (iR (some l0))] [] h =
 (xnA h 0 400 fun a1 h2 =>
 xpR h2 l0 18 0 (some a1) fun h3 =>
 xpI h3 l0 18 1 0 fun h4 =>
 some (o0, h4)) := rfl
-- TownSundays$Tape.hasRoomForTwenty()Z
theorem r_Tp_hasRoomForTwenty (d : Nat) (l0 : Nat) (h : IH) : rn (d + 1) 80 [iR (some l0)] h = lp d 80 (999999 + 1) 0 [some (iR (some l0))] [] h := rn_lp rfl rfl
set_option maxRecDepth 20000 in
set_option maxHeartbeats 4000000 in
theorem e_Tp_hasRoomForTwenty (d n : Nat) (l0 : Nat) (h : IH) :
 lp d 80 (n + 1) 0 [some (iR (some l0))] [] h =
 (xgI h l0 18 1 fun x1 =>
 (if (wr (x1 + 20)) ≤ 400 then
 xZ 1 h
 else
 xZ 0 h)) := rfl
-- TownSundays$Tape.addFour(I)V
theorem r_Tp_addFour (d : Nat) (l0 : Nat) (l1 : Int) (h : IH) : rn (d + 1) 81 [iR (some l0), iI l1] h = lp d 81 (999999 + 1) 0 [some (iR (some l0)), some (iI l1), none] [] h := rn_lp rfl rfl
set_option maxRecDepth 20000 in
set_option maxHeartbeats 4000000 in
theorem e_Tp_addFour (d n : Nat) (l0 : Nat) (l1 : Int) (h : IH) :
 lp d 81 (n + 1) 0 [some (iR (some l0)), some (iI l1), none] [] h =
 (lp d 81 n 3 [some (iR (some l0)), some (iI l1), some (iI 24)] [] h) := rfl
set_option maxRecDepth 20000 in
set_option maxHeartbeats 4000000 in
theorem e_Tp_addFour_3 (d n : Nat) (l0 : Nat) (l1 : Int) (l2 : Int) (h : IH) :
 lp d 81 (n + 1) 3 [some (iR (some l0)), some (iI l1), some (iI l2)] [] h =
 ((if l2 < 0 then
 some (o0, h)
 else
 xgI h l0 18 1 fun x1 =>
 (if x1 < 400 then
 xgR h l0 18 0 fun x2 =>
 xgI h l0 18 1 fun x3 =>
 xB x2 fun a5 =>
 xsI h a5 x3 (iand (ishr l1 l2) 255) fun h4 =>
 xgI h4 l0 18 1 fun x6 =>
 xpI h4 l0 18 1 (wr (x6 + 1)) fun h7 =>
 lp d 81 n 3 [some (iR (some l0)), some (iI l1), some (iI (wr (l2 + (-8))))] [] h7
 else
 some (o0, h)))) := rfl
-- TownSundays$Text.init(II)V
theorem r_Tx_init (d : Nat) (l0 : Nat) (l1 : Int) (l2 : Int) (h : IH) : rn (d + 1) 82 [iR (some l0), iI l1, iI l2] h = lp d 82 (999999 + 1) 0 [some (iR (some l0)), some (iI l1), some (iI l2)] [] h := rn_lp rfl rfl
set_option maxRecDepth 20000 in
set_option maxHeartbeats 4000000 in
theorem e_Tx_init (d n : Nat) (l0 : Nat) (l1 : Int) (l2 : Int) (h : IH) :
 lp d 82 (n + 1) 0 [some (iR (some l0)), some (iI l1), some (iI l2)] [] h =
 (xpI h l0 19 6 0 fun h1 =>
 xpI h1 l0 19 7 0 fun h2 =>
 xnA h2 0 l1 fun a3 h4 =>
 xpR h4 l0 19 0 (some a3) fun h5 =>
 xnA h5 0 l1 fun a6 h7 =>
 xpR h7 l0 19 1 (some a6) fun h8 =>
 xnA h8 0 l2 fun a9 h10 =>
 xpR h10 l0 19 2 (some a9) fun h11 =>
 xnA h11 0 l2 fun a12 h13 =>
 xpR h13 l0 19 3 (some a12) fun h14 =>
 xnA h14 0 (wr (l2 * 4)) fun a15 h16 =>
 xpR h16 l0 19 4 (some a15) fun h17 =>
 xnA h17 0 (wr (l2 * 4)) fun a18 h19 =>
 xpR h19 l0 19 5 (some a18) fun h20 =>
 some (o0, h20)) := rfl
-- TownSundays$Text.clear()V
theorem r_Tx_clear (d : Nat) (l0 : Nat) (h : IH) : rn (d + 1) 83 [iR (some l0)] h = lp d 83 (999999 + 1) 0 [some (iR (some l0))] [] h := rn_lp rfl rfl
set_option maxRecDepth 20000 in
set_option maxHeartbeats 4000000 in
theorem e_Tx_clear (d n : Nat) (l0 : Nat) (h : IH) :
 lp d 83 (n + 1) 0 [some (iR (some l0))] [] h =
 (xpI h l0 19 6 0 fun h1 =>
 xpI h1 l0 19 7 0 fun h2 =>
 xgR h2 l0 19 4 fun x3 =>
 kV (rn d 305 [iR x3, iI 0] h2) fun h4 =>
 xgR h4 l0 19 5 fun x5 =>
 kV (rn d 305 [iR x5, iI 0] h4) fun h6 =>
 some (o0, h6)) := rfl
-- TownSundays$Text.add(II)V
theorem r_Tx_add (d : Nat) (l0 : Nat) (l1 : Int) (l2 : Int) (h : IH) : rn (d + 1) 84 [iR (some l0), iI l1, iI l2] h = lp d 84 (999999 + 1) 0 [some (iR (some l0)), some (iI l1), some (iI l2)] [] h := rn_lp rfl rfl
set_option maxRecDepth 20000 in
set_option maxHeartbeats 4000000 in
theorem e_Tx_add (d n : Nat) (l0 : Nat) (l1 : Int) (l2 : Int) (h : IH) :
 lp d 84 (n + 1) 0 [some (iR (some l0)), some (iI l1), some (iI l2)] [] h =
 (xgI h l0 19 6 fun x1 =>
 xgR h l0 19 0 fun x2 =>
 xB x2 fun a4 =>
 xle h a4 fun x3 =>
 (if x1 < x3 then
 xgR h l0 19 0 fun x5 =>
 xgI h l0 19 6 fun x6 =>
 xB x5 fun a8 =>
 xsI h a8 x6 l1 fun h7 =>
 xgR h7 l0 19 1 fun x9 =>
 xgI h7 l0 19 6 fun x10 =>
 xB x9 fun a12 =>
 xsI h7 a12 x10 l2 fun h11 =>
 xgI h11 l0 19 6 fun x13 =>
 xpI h11 l0 19 6 (wr (x13 + 1)) fun h14 =>
 some (o0, h14)
 else
 some (o0, h))) := rfl
-- TownSundays$Text.setPlace(III)V
theorem r_Tx_setPlace (d : Nat) (l0 : Nat) (l1 : Int) (l2 : Int) (l3 : Int) (h : IH) : rn (d + 1) 85 [iR (some l0), iI l1, iI l2, iI l3] h = lp d 85 (999999 + 1) 0 [some (iR (some l0)), some (iI l1), some (iI l2), some (iI l3)] [] h := rn_lp rfl rfl
set_option maxRecDepth 20000 in
set_option maxHeartbeats 4000000 in
theorem e_Tx_setPlace (d n : Nat) (l0 : Nat) (l1 : Int) (l2 : Int) (l3 : Int) (h : IH) :
 lp d 85 (n + 1) 0 [some (iR (some l0)), some (iI l1), some (iI l2), some (iI l3)] [] h =
 (xgR h l0 19 4 fun x1 =>
 xB x1 fun a3 =>
 xsI h a3 (wr ((wr (l1 * 4)) + l2)) l3 fun h2 =>
 xgR h2 l0 19 5 fun x4 =>
 xgI h2 l0 19 6 fun x5 =>
 xB x4 fun a7 =>
 xsI h2 a7 (wr ((wr (l1 * 4)) + l2)) x5 fun h6 =>
 some (o0, h6)) := rfl
-- TownSundays$Text.landJump(I)V
theorem r_Tx_landJump (d : Nat) (l0 : Nat) (l1 : Int) (h : IH) : rn (d + 1) 86 [iR (some l0), iI l1] h = lp d 86 (999999 + 1) 0 [some (iR (some l0)), some (iI l1)] [] h := rn_lp rfl rfl
set_option maxRecDepth 20000 in
set_option maxHeartbeats 4000000 in
theorem e_Tx_landJump (d n : Nat) (l0 : Nat) (l1 : Int) (h : IH) :
 lp d 86 (n + 1) 0 [some (iR (some l0)), some (iI l1)] [] h =
 (xgR h l0 19 1 fun x1 =>
 xB x1 fun a3 =>
 xle h a3 fun x2 =>
 (if l1 < x2 then
 xgR h l0 19 1 fun x4 =>
 xgI h l0 19 6 fun x5 =>
 xB x4 fun a7 =>
 xsI h a7 l1 x5 fun h6 =>
 some (o0, h6)
 else
 some (o0, h))) := rfl
-- TownSundays$Text.trimmed()LTownSundays$Text;
theorem r_Tx_trimmed (d : Nat) (l0 : Nat) (h : IH) : rn (d + 1) 87 [iR (some l0)] h = lp d 87 (999999 + 1) 0 [some (iR (some l0)), none] [] h := rn_lp rfl rfl
set_option maxRecDepth 20000 in
set_option maxHeartbeats 4000000 in
theorem e_Tx_trimmed (d n : Nat) (l0 : Nat) (h : IH) :
 lp d 87 (n + 1) 0 [some (iR (some l0)), none] [] h =
 (xnO h 9 fun a1 h2 =>
 xgI h2 l0 19 6 fun x3 =>
 xgI h2 l0 19 7 fun x4 =>
 kV (rn d 82 [iR (some a1), iI x3, iI x4] h2) fun h5 =>
 xgI h5 l0 19 6 fun x6 =>
 xpI h5 a1 19 6 x6 fun h7 =>
 xgI h7 l0 19 7 fun x8 =>
 xpI h7 a1 19 7 x8 fun h9 =>
 xgR h9 l0 19 0 fun x10 =>
 xgR h9 a1 19 0 fun x11 =>
 xgI h9 l0 19 6 fun x12 =>
 xcp h9 x10 0 x11 0 x12 fun h13 =>
 xgR h13 l0 19 1 fun x14 =>
 xgR h13 a1 19 1 fun x15 =>
 xgI h13 l0 19 6 fun x16 =>
 xcp h13 x14 0 x15 0 x16 fun h17 =>
 xgR h17 l0 19 2 fun x18 =>
 xgR h17 a1 19 2 fun x19 =>
 xgI h17 l0 19 7 fun x20 =>
 xcp h17 x18 0 x19 0 x20 fun h21 =>
 xgR h21 l0 19 3 fun x22 =>
 xgR h21 a1 19 3 fun x23 =>
 xgI h21 l0 19 7 fun x24 =>
 xcp h21 x22 0 x23 0 x24 fun h25 =>
 xgR h25 l0 19 4 fun x26 =>
 xgR h25 a1 19 4 fun x27 =>
 xgI h25 l0 19 7 fun x28 =>
 xcp h25 x26 0 x27 0 (wr (x28 * 4)) fun h29 =>
 lp d 87 n 119 [some (iR (some l0)), some (iR (some a1))] [] h29) := rfl
set_option maxRecDepth 20000 in
set_option maxHeartbeats 4000000 in
theorem e_Tx_trimmed_119 (d n : Nat) (l0 : Nat) (l1 : Nat) (h : IH) :
 lp d 87 (n + 1) 119 [some (iR (some l0)), some (iR (some l1))] [] h =
 (xgR h l0 19 5 fun x1 =>
 xgR h l1 19 5 fun x2 =>
 xgI h l0 19 7 fun x3 =>
 xcp h x1 0 x2 0 (wr (x3 * 4)) fun h4 =>
 some (oR (some l1), h4)) := rfl
-- TownSundays$WayHome.init()V
theorem r_Wh_init (d : Nat) (l0 : Nat) (h : IH) : rn (d + 1) 88 [iR (some l0)] h = lp d 88 (999999 + 1) 0 [some (iR (some l0))] [] h := rn_lp rfl rfl
set_option maxRecDepth 20000 in
set_option maxHeartbeats 4000000 in
theorem e_Wh_init (d n : Nat) (l0 : Nat) (h : IH) :
 lp d 88 (n + 1) 0 [some (iR (some l0))] [] h =
 (xpI h l0 20 0 (-1) fun h1 =>
 xpI h1 l0 20 1 (-1) fun h2 =>
 xpI h2 l0 20 2 (-1) fun h3 =>
 xpI h3 l0 20 3 (-1) fun h4 =>
 xnA h4 0 49 fun a5 h6 =>
 xpR h6 l0 20 4 (some a5) fun h7 =>
 xnA h7 0 49 fun a8 h9 =>
 xpR h9 l0 20 5 (some a8) fun h10 =>
 xpR h10 l0 20 6 none fun h11 =>
 xpR h11 l0 20 7 none fun h12 =>
 xpR h12 l0 20 8 none fun h13 =>
 some (o0, h13)) := rfl
-- TownSundays$WayHome.look(LTownSundays$Land;LTownSundays$Judge;)V
theorem r_Wh_look (d : Nat) (l0 : Nat) (l1 : Option Nat) (l2 : Option Nat) (h : IH) : rn (d + 1) 89 [iR (some l0), iR l1, iR l2] h = lp d 89 (999999 + 1) 0 [some (iR (some l0)), some (iR l1), some (iR l2), none, none, none] [] h := rn_lp rfl rfl
set_option maxRecDepth 20000 in
set_option maxHeartbeats 4000000 in
theorem e_Wh_look (d n : Nat) (l0 : Nat) (l1 : Option Nat) (l2 : Option Nat) (h : IH) :
 lp d 89 (n + 1) 0 [some (iR (some l0)), some (iR l1), some (iR l2), none, none, none] [] h =
 (xck h l0 20 <|
 kV (rn d 91 [iR (some l0), iR l1, iR l2] h) fun h1 =>
 lp d 89 n 11 [some (iR (some l0)), some (iR l1), none, some (iI 0), some (iI 0), none] [] h1) := rfl
set_option maxRecDepth 20000 in
set_option maxHeartbeats 4000000 in
theorem e_Wh_look_11 (d n : Nat) (l0 : Nat) (l1 : Option Nat) (l3 : Int) (l4 : Int) (h : IH) :
 lp d 89 (n + 1) 11 [some (iR (some l0)), some (iR l1), none, some (iI l3), some (iI l4), none] [] h =
 ((if l4 < 7 then
 xB l1 fun a2 =>
 xgR h a2 11 1 fun x1 =>
 xB x1 fun a4 =>
 xaI h a4 l4 fun x3 =>
 lp d 89 n 11 [some (iR (some l0)), some (iR l1), none, some (iI (ior l3 (ishl x3 (wr (3 * l4))))), some (iI (wr (l4 + 1))), none] [] h
 else
 xB l1 fun a6 =>
 xgI h a6 11 0 fun x5 =>
 xck h l0 20 <|
 kI (rn d 92 [iR (some l0), iI x5, iI l3] h) fun x8 h7 =>
 (if x8 = 0 then
 xB l1 fun a10 =>
 xgI h7 a10 11 0 fun x9 =>
 xpI h7 l0 20 2 x9 fun h11 =>
 xpI h11 l0 20 3 l3 fun h12 =>
 xgR h12 l0 20 4 fun x13 =>
 xgR h12 l0 20 5 fun x14 =>
 xcp h12 x13 0 x14 0 49 fun h15 =>
 lp d 89 n 86 [some (iR (some l0)), some (iR l1), none, some (iI l3), some (iI 0), some (iI 0)] [] h15
 else
 some (o0, h7)))) := rfl
set_option maxRecDepth 20000 in
set_option maxHeartbeats 4000000 in
theorem e_Wh_look_86 (d n : Nat) (l0 : Nat) (l1 : Option Nat) (l3 : Int) (l4 : Int) (l5 : Int) (h : IH) :
 lp d 89 (n + 1) 86 [some (iR (some l0)), some (iR l1), none, some (iI l3), some (iI l4), some (iI l5)] [] h =
 ((if l5 < 7 then
 lp d 89 n 86 [some (iR (some l0)), some (iR l1), none, some (iI l3), some (iI (ior l4 (ishl l5 (wr (3 * l5))))), some (iI (wr (l5 + 1)))] [] h
 else
 (if l3 = l4 then
 xpI h l0 20 0 0 fun h1 =>
 some (o0, h1)
 else
 xB l1 fun a3 =>
 xgI h a3 11 0 fun x2 =>
 xck h l0 20 <|
 kI (rn d 94 [iR (some l0), iI x2, iI l3, iI l4] h) fun x5 h4 =>
 xpI h4 l0 20 0 x5 fun h6 =>
 some (o0, h6)))) := rfl
-- TownSundays$WayHome.swapAt(I)I
theorem r_Wh_swapAt (d : Nat) (l0 : Nat) (l1 : Int) (h : IH) : rn (d + 1) 90 [iR (some l0), iI l1] h = lp d 90 (999999 + 1) 0 [some (iR (some l0)), some (iI l1), none, none] [] h := rn_lp rfl rfl
set_option maxRecDepth 20000 in
set_option maxHeartbeats 4000000 in
theorem e_Wh_swapAt (d n : Nat) (l0 : Nat) (l1 : Int) (h : IH) :
 lp d 90 (n + 1) 0 [some (iR (some l0)), some (iI l1), none, none] [] h =
 (xgI h l0 20 1 fun x1 =>
 (if x1 = (-1) then
 some (oI (-1), h)
 else
 xgR h l0 20 6 fun x2 =>
 (match x2 with
 | none => some (oI (-1), h)
 | some _ => xgR h l0 20 7 fun x3 =>
 (match x3 with
 | none => some (oI (-1), h)
 | some _ => xgI h l0 20 1 fun x4 =>
 xgI h l0 20 0 fun x5 =>
 lp d 90 n 36 [some (iR (some l0)), some (iI l1), some (iI x4), some (iI (wr (x5 - 1)))] [] h)))) := rfl
set_option maxRecDepth 20000 in
set_option maxHeartbeats 4000000 in
theorem e_Wh_swapAt_36 (d n : Nat) (l0 : Nat) (l1 : Int) (l2 : Int) (l3 : Int) (h : IH) :
 lp d 90 (n + 1) 36 [some (iR (some l0)), some (iI l1), some (iI l2), some (iI l3)] [] h =
 ((if l3 ≤ l1 then
 xgR h l0 20 6 fun x1 =>
 xB x1 fun a3 =>
 xaI h a3 l2 fun x2 =>
 some (oI (ishr x2 21), h)
 else
 xgR h l0 20 7 fun x4 =>
 xB x4 fun a6 =>
 xaI h a6 l2 fun x5 =>
 (if x5 < 0 then
 xgR h l0 20 6 fun x7 =>
 xB x7 fun a9 =>
 xaI h a9 l2 fun x8 =>
 some (oI (ishr x8 21), h)
 else
 xgR h l0 20 7 fun x10 =>
 xB x10 fun a12 =>
 xaI h a12 l2 fun x11 =>
 lp d 90 n 36 [some (iR (some l0)), some (iI l1), some (iI x11), some (iI (wr (l3 + (-1))))] [] h))) := rfl
-- TownSundays$WayHome.fillSendable(LTownSundays$Land;LTownSundays$Judge;)V
theorem r_Wh_fillSendable (d : Nat) (l0 : Nat) (l1 : Option Nat) (l2 : Option Nat) (h : IH) : rn (d + 1) 91 [iR (some l0), iR l1, iR l2] h = lp d 91 (999999 + 1) 0 [some (iR (some l0)), some (iR l1), some (iR l2), none, none, none] [] h := rn_lp rfl rfl
set_option maxRecDepth 20000 in
set_option maxHeartbeats 4000000 in
theorem e_Wh_fillSendable (d n : Nat) (l0 : Nat) (l1 : Option Nat) (l2 : Option Nat) (h : IH) :
 lp d 91 (n + 1) 0 [some (iR (some l0)), some (iR l1), some (iR l2), none, none, none] [] h =
 (xgR h l0 20 4 fun x1 =>
 kV (rn d 305 [iR x1, iI 0] h) fun h2 =>
 lp d 91 n 10 [some (iR (some l0)), some (iR l1), some (iR l2), some (iI 0), none, none] [] h2) := rfl
set_option maxRecDepth 20000 in
set_option maxHeartbeats 4000000 in
theorem e_Wh_fillSendable_10 (d n : Nat) (l0 : Nat) (l1 : Option Nat) (l2 : Option Nat) (l3 : Int) (h : IH) :
 lp d 91 (n + 1) 10 [some (iR (some l0)), some (iR l1), some (iR l2), some (iI l3), none, none] [] h =
 (xB l1 fun a2 =>
 xgI h a2 11 0 fun x1 =>
 (if l3 < x1 then
 lp d 91 n 21 [some (iR (some l0)), some (iR l1), some (iR l2), some (iI l3), some (iI 0), none] [] h
 else
 some (o0, h))) := rfl
set_option maxRecDepth 20000 in
set_option maxHeartbeats 4000000 in
theorem e_Wh_fillSendable_21 (d n : Nat) (l0 : Nat) (l1 : Option Nat) (l2 : Option Nat) (l3 : Int) (l4 : Int) (h : IH) :
 lp d 91 (n + 1) 21 [some (iR (some l0)), some (iR l1), some (iR l2), some (iI l3), some (iI l4), none] [] h =
 (xB l1 fun a2 =>
 xgI h a2 11 0 fun x1 =>
 (if l4 < x1 then
 lp d 91 n 33 [some (iR (some l0)), some (iR l1), some (iR l2), some (iI l3), some (iI l4), some (iI 0)] [] h
 else
 lp d 91 n 10 [some (iR (some l0)), some (iR l1), some (iR l2), some (iI (wr (l3 + 1))), none, none] [] h)) := rfl
set_option maxRecDepth 20000 in
set_option maxHeartbeats 4000000 in
theorem e_Wh_fillSendable_33 (d n : Nat) (l0 : Nat) (l1 : Option Nat) (l2 : Option Nat) (l3 : Int) (l4 : Int) (l5 : Int) (h : IH) :
 lp d 91 (n + 1) 33 [some (iR (some l0)), some (iR l1), some (iR l2), some (iI l3), some (iI l4), some (iI l5)] [] h =
 (xB l1 fun a2 =>
 xgI h a2 11 0 fun x1 =>
 (if l5 < x1 then
 xB l2 fun a3 =>
 xck h a3 10 <|
 kI (rn d 3 [iR (some a3), iR l1, iI l3, iI l4, iI l5] h) fun x5 h4 =>
 (if x5 = 0 then
 lp d 91 n 33 [some (iR (some l0)), some (iR l1), some (iR l2), some (iI l3), some (iI l4), some (iI (wr (l5 + 1)))] [] h4
 else
 xgR h4 l0 20 4 fun x6 =>
 xB x6 fun a8 =>
 xaI h4 a8 (wr ((wr (l3 * 7)) + l4)) fun x7 =>
 xB x6 fun a10 =>
 xsI h4 a10 (wr ((wr (l3 * 7)) + l4)) (ior x7 (ishl 1 l5)) fun h9 =>
 lp d 91 n 33 [some (iR (some l0)), some (iR l1), some (iR l2), some (iI l3), some (iI l4), some (iI (wr (l5 + 1)))] [] h9)
 else
 lp d 91 n 21 [some (iR (some l0)), some (iR l1), some (iR l2), some (iI l3), some (iI (wr (l4 + 1))), none] [] h)) := rfl
-- TownSundays$WayHome.isFound(II)Z
theorem r_Wh_isFound (d : Nat) (l0 : Nat) (l1 : Int) (l2 : Int) (h : IH) : rn (d + 1) 92 [iR (some l0), iI l1, iI l2] h = lp d 92 (999999 + 1) 0 [some (iR (some l0)), some (iI l1), some (iI l2), none, none] [] h := rn_lp rfl rfl
set_option maxRecDepth 20000 in
set_option maxHeartbeats 4000000 in
theorem e_Wh_isFound (d n : Nat) (l0 : Nat) (l1 : Int) (l2 : Int) (h : IH) :
 lp d 92 (n + 1) 0 [some (iR (some l0)), some (iI l1), some (iI l2), none, none] [] h =
 (xgI h l0 20 2 fun x1 =>
 (if x1 = l1 then
 xgI h l0 20 3 fun x2 =>
 (if x2 = l2 then
 lp d 92 n 25 [some (iR (some l0)), none, none, some (iI 1), some (iI 0)] [] h
 else
 lp d 92 n 25 [some (iR (some l0)), none, none, some (iI 0), some (iI 0)] [] h)
 else
 lp d 92 n 25 [some (iR (some l0)), none, none, some (iI 0), some (iI 0)] [] h)) := rfl
set_option maxRecDepth 20000 in
set_option maxHeartbeats 4000000 in
theorem e_Wh_isFound_25 (d n : Nat) (l0 : Nat) (l3 : Int) (l4 : Int) (h : IH) :
 lp d 92 (n + 1) 25 [some (iR (some l0)), none, none, some (iI l3), some (iI l4)] [] h =
 ((if l4 < 49 then
 (if l3 = 0 then
 xZ l3 h
 else
 xgR h l0 20 4 fun x1 =>
 xB x1 fun a3 =>
 xaI h a3 l4 fun x2 =>
 xgR h l0 20 5 fun x4 =>
 xB x4 fun a6 =>
 xaI h a6 l4 fun x5 =>
 (if x2 = x5 then
 lp d 92 n 25 [some (iR (some l0)), none, none, some (iI 1), some (iI (wr (l4 + 1)))] [] h
 else
 lp d 92 n 25 [some (iR (some l0)), none, none, some (iI 0), some (iI (wr (l4 + 1)))] [] h))
 else
 xZ l3 h)) := rfl
-- TownSundays$WayHome.makeRoom()V
theorem r_Wh_makeRoom (d : Nat) (l0 : Nat) (h : IH) : rn (d + 1) 93 [iR (some l0)] h = lp d 93 (999999 + 1) 0 [some (iR (some l0))] [] h := rn_lp rfl rfl
set_option maxRecDepth 20000 in
set_option maxHeartbeats 4000000 in
theorem e_Wh_makeRoom (d n : Nat) (l0 : Nat) (h : IH) :
 lp d 93 (n + 1) 0 [some (iR (some l0))] [] h =
 (xgR h l0 20 6 fun x1 =>
 (match x1 with
 | none => lp d 93 n 21 [some (iR (some l0))] [] h
 | some _ => xgR h l0 20 7 fun x2 =>
 (match x2 with
 | none => lp d 93 n 21 [some (iR (some l0))] [] h
 | some _ => xgR h l0 20 8 fun x3 =>
 (match x3 with
 | none => lp d 93 n 21 [some (iR (some l0))] [] h
 | some _ => xgR h l0 20 8 fun x4 =>
 kV (rn d 304 [iR x4, iJ 0] h) fun h5 =>
 some (o0, h5))))) := rfl
set_option maxRecDepth 20000 in
set_option maxHeartbeats 4000000 in
theorem e_Wh_makeRoom_21 (d n : Nat) (l0 : Nat) (h : IH) :
 lp d 93 (n + 1) 21 [some (iR (some l0))] [] h =
 (xnA h 0 5040 fun a1 h2 =>
 xpR h2 l0 20 6 (some a1) fun h3 =>
 xnA h3 0 5040 fun a4 h5 =>
 xpR h5 l0 20 7 (some a4) fun h6 =>
 xnA h6 1 4096 fun a7 h8 =>
 xpR h8 l0 20 8 (some a7) fun h9 =>
 xgR h9 l0 20 8 fun x10 =>
 kV (rn d 304 [iR x10, iJ 0] h9) fun h11 =>
 some (o0, h11)) := rfl
-- TownSundays$WayHome.search(III)I
theorem r_Wh_search (d : Nat) (l0 : Nat) (l1 : Int) (l2 : Int) (l3 : Int) (h : IH) : rn (d + 1) 94 [iR (some l0), iI l1, iI l2, iI l3] h = lp d 94 (999999 + 1) 0 [some (iR (some l0)), some (iI l1), some (iI l2), some (iI l3), none, none] [] h := rn_lp rfl rfl
set_option maxRecDepth 20000 in
set_option maxHeartbeats 4000000 in
theorem e_Wh_search (d n : Nat) (l0 : Nat) (l1 : Int) (l2 : Int) (l3 : Int) (h : IH) :
 lp d 94 (n + 1) 0 [some (iR (some l0)), some (iI l1), some (iI l2), some (iI l3), none, none] [] h =
 (xck h l0 20 <|
 kV (rn d 93 [iR (some l0)] h) fun h1 =>
 xgR h1 l0 20 6 fun x2 =>
 xB x2 fun a4 =>
 xsI h1 a4 0 l2 fun h3 =>
 xgR h3 l0 20 7 fun x5 =>
 xB x5 fun a7 =>
 xsI h3 a7 0 (-1) fun h6 =>
 xck h6 l0 20 <|
 kI (rn d 95 [iR (some l0), iI l2] h6) fun x9 h8 =>
 xpI h8 l0 20 1 (-1) fun h10 =>
 lp d 94 n 35 [some (iR (some l0)), some (iI l1), none, some (iI l3), some (iI 1), some (iI 0)] [] h10) := rfl
set_option maxRecDepth 20000 in
set_option maxHeartbeats 4000000 in
theorem e_Wh_search_35 (d n : Nat) (l0 : Nat) (l1 : Int) (l3 : Int) (l4 : Int) (l5 : Int) (h : IH) :
 lp d 94 (n + 1) 35 [some (iR (some l0)), some (iI l1), none, some (iI l3), some (iI l4), some (iI l5)] [] h =
 ((if l5 < l4 then
 (if l5 < 5040 then
 xgI h l0 20 1 fun x1 =>
 (if x1 = (-1) then
 xck h l0 20 <|
 kI (rn d 96 [iR (some l0), iI l5, iI l4, iI l1, iI l3] h) fun x3 h2 =>
 lp d 94 n 35 [some (iR (some l0)), some (iI l1), none, some (iI l3), some (iI x3), some (iI (wr (l5 + 1)))] [] h2
 else
 xgI h l0 20 1 fun x4 =>
 (if x4 = (-1) then
 some (oI (-1), h)
 else
 xgI h l0 20 1 fun x5 =>
 xck h l0 20 <|
 kI (rn d 97 [iR (some l0), iI x5] h) fun x7 h6 =>
 some (oI x7, h6)))
 else
 xgI h l0 20 1 fun x8 =>
 (if x8 = (-1) then
 some (oI (-1), h)
 else
 xgI h l0 20 1 fun x9 =>
 xck h l0 20 <|
 kI (rn d 97 [iR (some l0), iI x9] h) fun x11 h10 =>
 some (oI x11, h10)))
 else
 xgI h l0 20 1 fun x12 =>
 (if x12 = (-1) then
 some (oI (-1), h)
 else
 xgI h l0 20 1 fun x13 =>
 xck h l0 20 <|
 kI (rn d 97 [iR (some l0), iI x13] h) fun x15 h14 =>
 some (oI x15, h14)))) := rfl
-- TownSundays$WayHome.markSeen(I)Z
theorem r_Wh_markSeen (d : Nat) (l0 : Nat) (l1 : Int) (h : IH) : rn (d + 1) 95 [iR (some l0), iI l1] h = lp d 95 (999999 + 1) 0 [some (iR (some l0)), some (iI l1), none, none, none, none] [] h := rn_lp rfl rfl
set_option maxRecDepth 20000 in
set_option maxHeartbeats 4000000 in
theorem e_Wh_markSeen (d n : Nat) (l0 : Nat) (l1 : Int) (h : IH) :
 lp d 95 (n + 1) 0 [some (iR (some l0)), some (iI l1), none, none, none, none] [] h =
 (xgR h l0 20 8 fun x1 =>
 xB x1 fun a3 =>
 xaJ h a3 (ishr (iand l1 262143) 6) fun x2 =>
 (if (lcmp (land x2 (lshl 1 (iand l1 63))) 0) = 0 then
 xgR h l0 20 8 fun x4 =>
 xB x4 fun a6 =>
 xaJ h a6 (ishr (iand l1 262143) 6) fun x5 =>
 xB x4 fun a8 =>
 xsJ h a8 (ishr (iand l1 262143) 6) (lor x5 (lshl 1 (iand l1 63))) fun h7 =>
 xZ 1 h7
 else
 xgR h l0 20 8 fun x9 =>
 xB x9 fun a11 =>
 xaJ h a11 (ishr (iand l1 262143) 6) fun x10 =>
 xB x9 fun a13 =>
 xsJ h a13 (ishr (iand l1 262143) 6) (lor x10 (lshl 1 (iand l1 63))) fun h12 =>
 xZ 0 h12)) := rfl
-- TownSundays$WayHome.addNext(IIII)I
theorem r_Wh_addNext (d : Nat) (l0 : Nat) (l1 : Int) (l2 : Int) (l3 : Int) (l4 : Int) (h : IH) : rn (d + 1) 96 [iR (some l0), iI l1, iI l2, iI l3, iI l4] h = lp d 96 (999999 + 1) 0 [some (iR (some l0)), some (iI l1), some (iI l2), some (iI l3), some (iI l4), none, none, none, none, none, none, none, none, none] [] h := rn_lp rfl rfl
set_option maxRecDepth 20000 in
set_option maxHeartbeats 4000000 in
theorem e_Wh_addNext (d n : Nat) (l0 : Nat) (l1 : Int) (l2 : Int) (l3 : Int) (l4 : Int) (h : IH) :
 lp d 96 (n + 1) 0 [some (iR (some l0)), some (iI l1), some (iI l2), some (iI l3), some (iI l4), none, none, none, none, none, none, none, none, none] [] h =
 (xgR h l0 20 6 fun x1 =>
 xB x1 fun a3 =>
 xaI h a3 l1 fun x2 =>
 lp d 96 n 17 [some (iR (some l0)), some (iI l1), none, some (iI l3), some (iI l4), some (iI (iand x2 2097151)), some (iI l2), some (iI 0), none, none, none, none, none, none] [] h) := rfl
set_option maxRecDepth 20000 in
set_option maxHeartbeats 4000000 in
theorem e_Wh_addNext_17 (d n : Nat) (l0 : Nat) (l1 : Int) (l3 : Int) (l4 : Int) (l5 : Int) (l6 : Int) (l7 : Int) (h : IH) :
 lp d 96 (n + 1) 17 [some (iR (some l0)), some (iI l1), none, some (iI l3), some (iI l4), some (iI l5), some (iI l6), some (iI l7), none, none, none, none, none, none] [] h =
 ((if l7 < l3 then
 xgR h l0 20 4 fun x1 =>
 xB x1 fun a3 =>
 xaI h a3 (wr ((wr ((iand (ishr l5 (wr (3 * l7))) 7) * 7)) + l7)) fun x2 =>
 lp d 96 n 56 [some (iR (some l0)), some (iI l1), none, some (iI l3), some (iI l4), some (iI l5), some (iI l6), some (iI l7), some (iI (iand (ishr l5 (wr (3 * l7))) 7)), some (iI x2), some (iI (wr (l7 + 1))), none, none, none] [] h
 else
 some (oI l6, h))) := rfl
set_option maxRecDepth 20000 in
set_option maxHeartbeats 4000000 in
theorem e_Wh_addNext_56 (d n : Nat) (l0 : Nat) (l1 : Int) (l3 : Int) (l4 : Int) (l5 : Int) (l6 : Int) (l7 : Int) (l8 : Int) (l9 : Int) (l10 : Int) (h : IH) :
 lp d 96 (n + 1) 56 [some (iR (some l0)), some (iI l1), none, some (iI l3), some (iI l4), some (iI l5), some (iI l6), some (iI l7), some (iI l8), some (iI l9), some (iI l10), none, none, none] [] h =
 ((if l10 < l3 then
 (if l6 < 5040 then
 xgR h l0 20 4 fun x1 =>
 xB x1 fun a3 =>
 xaI h a3 (wr ((wr ((iand (ishr l5 (wr (3 * l10))) 7) * 7)) + l10)) fun x2 =>
 (if (iand (iand (ishr l9 l10) (ishr x2 l7)) 1) = 0 then
 lp d 96 n 109 [some (iR (some l0)), some (iI l1), none, some (iI l3), some (iI l4), some (iI l5), some (iI l6), some (iI l7), some (iI l8), some (iI l9), some (iI l10), none, none, none] [] h
 else
 xck h l0 20 <|
 kI (rn d 95 [iR (some l0), iI (ixor (ixor l5 (ishl (ixor l8 (iand (ishr l5 (wr (3 * l10))) 7)) (wr (3 * l7)))) (ishl (ixor l8 (iand (ishr l5 (wr (3 * l10))) 7)) (wr (3 * l10))))] h) fun x5 h4 =>
 (if x5 = 0 then
 lp d 96 n 56 [some (iR (some l0)), some (iI l1), none, some (iI l3), some (iI l4), some (iI l5), some (iI l6), some (iI l7), some (iI l8), some (iI l9), some (iI (wr (l10 + 1))), none, none, none] [] h4
 else
 lp d 96 n 149 [some (iR (some l0)), some (iI l1), none, some (iI l3), some (iI l4), some (iI l5), some (iI l6), some (iI l7), some (iI l8), some (iI l9), some (iI l10), none, none, some (iI (ixor (ixor l5 (ishl (ixor l8 (iand (ishr l5 (wr (3 * l10))) 7)) (wr (3 * l7)))) (ishl (ixor l8 (iand (ishr l5 (wr (3 * l10))) 7)) (wr (3 * l10)))))] [iR (some l0)] h4))
 else
 lp d 96 n 17 [some (iR (some l0)), some (iI l1), none, some (iI l3), some (iI l4), some (iI l5), some (iI l6), some (iI (wr (l7 + 1))), none, none, none, none, none, none] [] h)
 else
 lp d 96 n 17 [some (iR (some l0)), some (iI l1), none, some (iI l3), some (iI l4), some (iI l5), some (iI l6), some (iI (wr (l7 + 1))), none, none, none, none, none, none] [] h)) := rfl
set_option maxRecDepth 20000 in
set_option maxHeartbeats 4000000 in
theorem e_Wh_addNext_109 (d n : Nat) (l0 : Nat) (l1 : Int) (l3 : Int) (l4 : Int) (l5 : Int) (l6 : Int) (l7 : Int) (l8 : Int) (l9 : Int) (l10 : Int) (h : IH) :
 lp d 96 (n + 1) 109 [some (iR (some l0)), some (iI l1), none, some (iI l3), some (iI l4), some (iI l5), some (iI l6), some (iI l7), some (iI l8), some (iI l9), some (iI l10), none, none, none] [] h =
 (lp d 96 n 56 [some (iR (some l0)), some (iI l1), none, some (iI l3), some (iI l4), some (iI l5), some (iI l6), some (iI l7), some (iI l8), some (iI l9), some (iI (wr (l10 + 1))), none, none, none] [] h) := rfl
set_option maxRecDepth 20000 in
set_option maxHeartbeats 4000000 in
theorem e_Wh_addNext_149 (d n : Nat) (l0 : Nat) (l1 : Int) (l3 : Int) (l4 : Int) (l5 : Int) (l6 : Int) (l7 : Int) (l8 : Int) (l9 : Int) (l10 : Int) (l13 : Int) (s0 : Nat) (h : IH) :
 lp d 96 (n + 1) 149 [some (iR (some l0)), some (iI l1), none, some (iI l3), some (iI l4), some (iI l5), some (iI l6), some (iI l7), some (iI l8), some (iI l9), some (iI l10), none, none, some (iI l13)] [iR (some s0)] h =
 (xgR h s0 20 6 fun x1 =>
 xB x1 fun a3 =>
 xsI h a3 l6 (ior l13 (ishl (wr ((wr (l7 * 7)) + l10)) 21)) fun h2 =>
 xgR h2 l0 20 7 fun x4 =>
 xB x4 fun a6 =>
 xsI h2 a6 l6 l1 fun h5 =>
 (if l13 = l4 then
 xpI h5 l0 20 1 l6 fun h7 =>
 lp d 96 n 56 [some (iR (some l0)), some (iI l1), none, some (iI l3), some (iI l4), some (iI l5), some (iI (wr (l6 + 1))), some (iI l7), some (iI l8), some (iI l9), some (iI (wr (l10 + 1))), none, none, none] [] h7
 else
 lp d 96 n 191 [some (iR (some l0)), some (iI l1), none, some (iI l3), some (iI l4), some (iI l5), some (iI l6), some (iI l7), some (iI l8), some (iI l9), some (iI l10), none, none, none] [iR (some l0), iR (some l0)] h5)) := rfl
set_option maxRecDepth 20000 in
set_option maxHeartbeats 4000000 in
theorem e_Wh_addNext_191 (d n : Nat) (l0 : Nat) (l1 : Int) (l3 : Int) (l4 : Int) (l5 : Int) (l6 : Int) (l7 : Int) (l8 : Int) (l9 : Int) (l10 : Int) (s0 : Nat) (s1 : Nat) (h : IH) :
 lp d 96 (n + 1) 191 [some (iR (some l0)), some (iI l1), none, some (iI l3), some (iI l4), some (iI l5), some (iI l6), some (iI l7), some (iI l8), some (iI l9), some (iI l10), none, none, none] [iR (some s1), iR (some s0)] h =
 (xgI h s1 20 1 fun x1 =>
 xpI h s0 20 1 x1 fun h2 =>
 lp d 96 n 56 [some (iR (some l0)), some (iI l1), none, some (iI l3), some (iI l4), some (iI l5), some (iI (wr (l6 + 1))), some (iI l7), some (iI l8), some (iI l9), some (iI (wr (l10 + 1))), none, none, none] [] h2) := rfl
-- TownSundays$WayHome.stepsTo(I)I
theorem r_Wh_stepsTo (d : Nat) (l0 : Nat) (l1 : Int) (h : IH) : rn (d + 1) 97 [iR (some l0), iI l1] h = lp d 97 (999999 + 1) 0 [some (iR (some l0)), some (iI l1), none, none] [] h := rn_lp rfl rfl
set_option maxRecDepth 20000 in
set_option maxHeartbeats 4000000 in
theorem e_Wh_stepsTo (d n : Nat) (l0 : Nat) (l1 : Int) (h : IH) :
 lp d 97 (n + 1) 0 [some (iR (some l0)), some (iI l1), none, none] [] h =
 (lp d 97 n 4 [some (iR (some l0)), none, some (iI 0), some (iI l1)] [] h) := rfl
set_option maxRecDepth 20000 in
set_option maxHeartbeats 4000000 in
theorem e_Wh_stepsTo_4 (d n : Nat) (l0 : Nat) (l2 : Int) (l3 : Int) (h : IH) :
 lp d 97 (n + 1) 4 [some (iR (some l0)), none, some (iI l2), some (iI l3)] [] h =
 (xgR h l0 20 7 fun x1 =>
 xB x1 fun a3 =>
 xaI h a3 l3 fun x2 =>
 (if x2 < 0 then
 some (oI l2, h)
 else
 (if l2 < 5040 then
 xgR h l0 20 7 fun x4 =>
 xB x4 fun a6 =>
 xaI h a6 l3 fun x5 =>
 lp d 97 n 4 [some (iR (some l0)), none, some (iI (wr (l2 + 1))), some (iI x5)] [] h
 else
 some (oI l2, h)))) := rfl
-- TownSundays.init()V
theorem r_T_init (d : Nat) (l0 : Nat) (h : IH) : rn (d + 1) 98 [iR (some l0)] h = lp d 98 (999999 + 1) 0 [some (iR (some l0))] [] h := rn_lp rfl rfl
set_option maxRecDepth 20000 in
set_option maxHeartbeats 4000000 in
theorem e_T_init (d n : Nat) (l0 : Nat) (h : IH) :
 lp d 98 (n + 1) 0 [some (iR (some l0))] [] h =
 (xnO h 1 fun a1 h2 =>
 kV (rn d 8 [iR (some a1)] h2) fun h3 =>
 xpR h3 l0 21 0 (some a1) fun h4 =>
 xnO h4 1 fun a5 h6 =>
 kV (rn d 8 [iR (some a5)] h6) fun h7 =>
 xpR h7 l0 21 1 (some a5) fun h8 =>
 xnO h8 1 fun a9 h10 =>
 kV (rn d 8 [iR (some a9)] h10) fun h11 =>
 xpR h11 l0 21 2 (some a9) fun h12 =>
 xnA h12 5 2 fun a13 h14 =>
 xpR h14 l0 21 3 (some a13) fun h15 =>
 xnO h15 8 fun a16 h17 =>
 kV (rn d 79 [iR (some a16)] h17) fun h18 =>
 xpR h18 l0 21 4 (some a16) fun h19 =>
 xnO h19 5 fun a20 h21 =>
 kV (rn d 52 [iR (some a20)] h21) fun h22 =>
 xpR h22 l0 21 5 (some a20) fun h23 =>
 xnO h23 0 fun a24 h25 =>
 kV (rn d 0 [iR (some a24)] h25) fun h26 =>
 xpR h26 l0 21 6 (some a24) fun h27 =>
 xnO h27 2 fun a28 h29 =>
 kV (rn d 20 [iR (some a28)] h29) fun h30 =>
 xpR h30 l0 21 7 (some a28) fun h31 =>
 xnO h31 7 fun a32 h33 =>
 kV (rn d 75 [iR (some a32)] h33) fun h34 =>
 xpR h34 l0 21 8 (some a32) fun h35 =>
 xnO h35 4 fun a36 h37 =>
 kV (rn d 46 [iR (some a36)] h37) fun h38 =>
 xpR h38 l0 21 9 (some a36) fun h39 =>
 xnO h39 4 fun a40 h41 =>
 kV (rn d 46 [iR (some a40)] h41) fun h42 =>
 xpR h42 l0 21 10 (some a40) fun h43 =>
 xnO h43 3 fun a44 h45 =>
 kV (rn d 27 [iR (some a44)] h45) fun h46 =>
 lp d 98 n 130 [some (iR (some l0))] [iR (some a44), iR (some l0)] h46) := rfl
set_option maxRecDepth 20000 in
set_option maxHeartbeats 4000000 in
theorem e_T_init_130 (d n : Nat) (l0 : Nat) (s0 : Nat) (s1 : Nat) (h : IH) :
 lp d 98 (n + 1) 130 [some (iR (some l0))] [iR (some s1), iR (some s0)] h =
 (xpR h s0 21 11 (some s1) fun h1 =>
 xnO h1 10 fun a2 h3 =>
 kV (rn d 88 [iR (some a2)] h3) fun h4 =>
 xpR h4 l0 21 12 (some a2) fun h5 =>
 xnA h5 1 20 fun a6 h7 =>
 xpR h7 l0 21 13 (some a6) fun h8 =>
 xnA h8 0 5 fun a9 h10 =>
 xpR h10 l0 21 14 (some a9) fun h11 =>
 xpI h11 l0 21 15 0 fun h12 =>
 xpI h12 l0 21 16 0 fun h13 =>
 xpI h13 l0 21 17 (-1) fun h14 =>
 some (o0, h14)) := rfl
-- TownSundays.town(II)I
theorem r_T_town (d : Nat) (l0 : Nat) (l1 : Int) (l2 : Int) (h : IH) : rn (d + 1) 99 [iR (some l0), iI l1, iI l2] h = lp d 99 (999999 + 1) 0 [some (iR (some l0)), some (iI l1), some (iI l2), none] [] h := rn_lp rfl rfl
set_option maxRecDepth 20000 in
set_option maxHeartbeats 4000000 in
theorem e_T_town (d n : Nat) (l0 : Nat) (l1 : Int) (l2 : Int) (h : IH) :
 lp d 99 (n + 1) 0 [some (iR (some l0)), some (iI l1), some (iI l2), none] [] h =
 ((if l1 < 0 then
 xck h l0 21 <|
 kI (rn d 142 [iR (some l0), iI (-1)] h) fun x2 h1 =>
 some (oI x2, h1)
 else
 (if l1 ≤ 9 then
 (if l2 < 0 then
 xck h l0 21 <|
 kI (rn d 142 [iR (some l0), iI (-1)] h) fun x4 h3 =>
 some (oI x4, h3)
 else
 (if l2 ≤ 9 then
 xgR h l0 21 0 fun x5 =>
 xB x5 fun a7 =>
 xgI h a7 11 0 fun x6 =>
 (if x6 < 7 then
 xgR h l0 21 0 fun x8 =>
 xB x8 fun a10 =>
 xgI h a10 11 0 fun x9 =>
 xgR h l0 21 0 fun x11 =>
 xB x11 fun a13 =>
 xgR h a13 11 3 fun x12 =>
 xB x12 fun a15 =>
 xsI h a15 x9 l1 fun h14 =>
 xgR h14 l0 21 0 fun x16 =>
 xB x16 fun a18 =>
 xgR h14 a18 11 4 fun x17 =>
 xB x17 fun a20 =>
 xsI h14 a20 x9 l2 fun h19 =>
 xgR h19 l0 21 0 fun x21 =>
 xB x21 fun a23 =>
 xgI h19 a23 11 0 fun x22 =>
 xB x21 fun a25 =>
 xpI h19 a25 11 0 (wr (x22 + 1)) fun h24 =>
 xgR h24 l0 21 9 fun x26 =>
 xB x26 fun a27 =>
 xck h24 a27 14 <|
 kV (rn d 47 [iR (some a27)] h24) fun h28 =>
 xck h28 l0 21 <|
 kI (rn d 140 [iR (some l0), iI x9] h28) fun x30 h29 =>
 some (oI x30, h29)
 else
 xck h l0 21 <|
 kI (rn d 142 [iR (some l0), iI (-5)] h) fun x32 h31 =>
 some (oI x32, h31))
 else
 xck h l0 21 <|
 kI (rn d 142 [iR (some l0), iI (-1)] h) fun x34 h33 =>
 some (oI x34, h33)))
 else
 xck h l0 21 <|
 kI (rn d 142 [iR (some l0), iI (-1)] h) fun x36 h35 =>
 some (oI x36, h35)))) := rfl
-- TownSundays.of(II)I
theorem r_T_of (d : Nat) (l0 : Nat) (l1 : Int) (l2 : Int) (h : IH) : rn (d + 1) 100 [iR (some l0), iI l1, iI l2] h = lp d 100 (999999 + 1) 0 [some (iR (some l0)), some (iI l1), some (iI l2), none, none] [] h := rn_lp rfl rfl
set_option maxRecDepth 20000 in
set_option maxHeartbeats 4000000 in
theorem e_T_of (d n : Nat) (l0 : Nat) (l1 : Int) (l2 : Int) (h : IH) :
 lp d 100 (n + 1) 0 [some (iR (some l0)), some (iI l1), some (iI l2), none, none] [] h =
 (xgR h l0 21 0 fun x1 =>
 xB x1 fun a2 =>
 xck h a2 11 <|
 kI (rn d 10 [iR (some a2), iI l1] h) fun x4 h3 =>
 (if x4 = 0 then
 some (oI (-1), h3)
 else
 (if l2 < 0 then
 some (oI (-1), h3)
 else
 (if l2 ≤ 21 then
 (if l2 = 0 then
 xgR h3 l0 21 0 fun x5 =>
 xB x5 fun a7 =>
 xgR h3 a7 11 1 fun x6 =>
 xB x6 fun a9 =>
 xaI h3 a9 l1 fun x8 =>
 some (oI x8, h3)
 else
 xmI (wr (l2 - 1)) 7 fun x10 =>
 xgR h3 l0 21 0 fun x11 =>
 xB x11 fun a12 =>
 xck h3 a12 11 <|
 kI (rn d 10 [iR (some a12), iI x10] h3) fun x14 h13 =>
 (if x14 = 0 then
 some (oI (-1), h13)
 else
 xdI (wr (l2 - 1)) 7 fun x15 =>
 (if x15 = 0 then
 xgR h13 l0 21 6 fun x16 =>
 xgR h13 l0 21 0 fun x17 =>
 xgR h13 l0 21 0 fun x18 =>
 xB x18 fun a19 =>
 xck h13 a19 11 <|
 kR (rn d 12 [iR (some a19)] h13) fun x21 h20 =>
 xB x16 fun a22 =>
 xck h20 a22 10 <|
 kI (rn d 1 [iR (some a22), iR x17, iR x21, iI l1, iI x10] h20) fun x24 h23 =>
 some (oI x24, h23)
 else
 (if x15 = 1 then
 xgR h13 l0 21 0 fun x25 =>
 xB x25 fun a27 =>
 xgR h13 a27 11 5 fun x26 =>
 xB x26 fun a29 =>
 xaI h13 a29 (wr ((wr (l1 * 7)) + x10)) fun x28 =>
 some (oI x28, h13)
 else
 lp d 100 n 112 [some (iR (some l0)), some (iI l1), none, some (iI x10), none] [] h13))))
 else
 some (oI (-1), h3))))) := rfl
set_option maxRecDepth 20000 in
set_option maxHeartbeats 4000000 in
theorem e_T_of_112 (d n : Nat) (l0 : Nat) (l1 : Int) (l3 : Int) (h : IH) :
 lp d 100 (n + 1) 112 [some (iR (some l0)), some (iI l1), none, some (iI l3), none] [] h =
 (xgR h l0 21 6 fun x1 =>
 xgR h l0 21 0 fun x2 =>
 xB x1 fun a3 =>
 xck h a3 10 <|
 kI (rn d 4 [iR (some a3), iR x2, iI l1, iI l3] h) fun x5 h4 =>
 (if x5 = 0 then
 some (oI 0, h4)
 else
 some (oI 1, h4))) := rfl
-- TownSundays.sunday(II)I
theorem r_T_sunday (d : Nat) (l0 : Nat) (l1 : Int) (l2 : Int) (h : IH) : rn (d + 1) 101 [iR (some l0), iI l1, iI l2] h = lp d 101 (999999 + 1) 0 [some (iR (some l0)), some (iI l1), some (iI l2)] [] h := rn_lp rfl rfl
set_option maxRecDepth 20000 in
set_option maxHeartbeats 4000000 in
theorem e_T_sunday (d n : Nat) (l0 : Nat) (l1 : Int) (l2 : Int) (h : IH) :
 lp d 101 (n + 1) 0 [some (iR (some l0)), some (iI l1), some (iI l2)] [] h =
 (xgR h l0 21 0 fun x1 =>
 xB x1 fun a2 =>
 xck h a2 11 <|
 kI (rn d 10 [iR (some a2), iI l1] h) fun x4 h3 =>
 (if x4 = 0 then
 some (oI (-1), h3)
 else
 (if l2 = 0 then
 xgR h3 l0 21 0 fun x20 =>
 xB x20 fun a22 =>
 xgR h3 a22 11 2 fun x21 =>
 xB x21 fun a24 =>
 xaI h3 a24 l1 fun x23 =>
 some (oI x23, h3)
 else
 (if l2 = 1 then
 xgR h3 l0 21 0 fun x15 =>
 xB x15 fun a17 =>
 xgR h3 a17 11 3 fun x16 =>
 xB x16 fun a19 =>
 xaI h3 a19 l1 fun x18 =>
 some (oI x18, h3)
 else
 (if l2 = 2 then
 xgR h3 l0 21 0 fun x10 =>
 xB x10 fun a12 =>
 xgR h3 a12 11 4 fun x11 =>
 xB x11 fun a14 =>
 xaI h3 a14 l1 fun x13 =>
 some (oI x13, h3)
 else
 (if l2 = 3 then
 xgR h3 l0 21 6 fun x5 =>
 xgR h3 l0 21 0 fun x6 =>
 xB x5 fun a7 =>
 xck h3 a7 10 <|
 kI (rn d 2 [iR (some a7), iR x6, iI l1] h3) fun x9 h8 =>
 some (oI x9, h8)
 else
 some (oI (-1), h3))))))) := rfl
-- TownSundays.road(III)I
theorem r_T_road (d : Nat) (l0 : Nat) (l1 : Int) (l2 : Int) (l3 : Int) (h : IH) : rn (d + 1) 102 [iR (some l0), iI l1, iI l2, iI l3] h = lp d 102 (999999 + 1) 0 [some (iR (some l0)), some (iI l1), some (iI l2), some (iI l3), none] [] h := rn_lp rfl rfl
set_option maxRecDepth 20000 in
set_option maxHeartbeats 4000000 in
theorem e_T_road (d n : Nat) (l0 : Nat) (l1 : Int) (l2 : Int) (l3 : Int) (h : IH) :
 lp d 102 (n + 1) 0 [some (iR (some l0)), some (iI l1), some (iI l2), some (iI l3), none] [] h =
 ((if l3 < 0 then
 xck h l0 21 <|
 kI (rn d 142 [iR (some l0), iI (-1)] h) fun x2 h1 =>
 some (oI x2, h1)
 else
 (if l3 ≤ 99 then
 (if l1 = l2 then
 xck h l0 21 <|
 kI (rn d 142 [iR (some l0), iI (-1)] h) fun x4 h3 =>
 some (oI x4, h3)
 else
 xgR h l0 21 0 fun x5 =>
 xB x5 fun a6 =>
 xck h a6 11 <|
 kI (rn d 10 [iR (some a6), iI l1] h) fun x8 h7 =>
 (if x8 = 0 then
 xck h7 l0 21 <|
 kI (rn d 142 [iR (some l0), iI (-2)] h7) fun x10 h9 =>
 some (oI x10, h9)
 else
 xgR h7 l0 21 0 fun x11 =>
 xB x11 fun a12 =>
 xck h7 a12 11 <|
 kI (rn d 10 [iR (some a12), iI l2] h7) fun x14 h13 =>
 (if x14 = 0 then
 xck h13 l0 21 <|
 kI (rn d 142 [iR (some l0), iI (-2)] h13) fun x16 h15 =>
 some (oI x16, h15)
 else
 xgR h13 l0 21 0 fun x17 =>
 xB x17 fun a18 =>
 xck h13 a18 11 <|
 kI (rn d 13 [iR (some a18), iI l1, iI l2] h13) fun x20 h19 =>
 xgR h19 l0 21 0 fun x21 =>
 xB x21 fun a22 =>
 xck h19 a22 11 <|
 kV (rn d 15 [iR (some a22), iI l1, iI l2, iI l3] h19) fun h23 =>
 xgR h23 l0 21 9 fun x24 =>
 xB x24 fun a25 =>
 xck h23 a25 14 <|
 kV (rn d 47 [iR (some a25)] h23) fun h26 =>
 xck h26 l0 21 <|
 kI (rn d 140 [iR (some l0), iI x20] h26) fun x28 h27 =>
 some (oI x28, h27))))
 else
 xck h l0 21 <|
 kI (rn d 142 [iR (some l0), iI (-1)] h) fun x30 h29 =>
 some (oI x30, h29)))) := rfl
-- TownSundays.between(III)I
theorem r_T_between (d : Nat) (l0 : Nat) (l1 : Int) (l2 : Int) (l3 : Int) (h : IH) : rn (d + 1) 103 [iR (some l0), iI l1, iI l2, iI l3] h = lp d 103 (999999 + 1) 0 [some (iR (some l0)), some (iI l1), some (iI l2), some (iI l3)] [] h := rn_lp rfl rfl
set_option maxRecDepth 20000 in
set_option maxHeartbeats 4000000 in
theorem e_T_between (d n : Nat) (l0 : Nat) (l1 : Int) (l2 : Int) (l3 : Int) (h : IH) :
 lp d 103 (n + 1) 0 [some (iR (some l0)), some (iI l1), some (iI l2), some (iI l3)] [] h =
 ((if l1 = l2 then
 some (oI (-1), h)
 else
 xgR h l0 21 0 fun x1 =>
 xB x1 fun a2 =>
 xck h a2 11 <|
 kI (rn d 10 [iR (some a2), iI l1] h) fun x4 h3 =>
 (if x4 = 0 then
 some (oI (-1), h3)
 else
 xgR h3 l0 21 0 fun x5 =>
 xB x5 fun a6 =>
 xck h3 a6 11 <|
 kI (rn d 10 [iR (some a6), iI l2] h3) fun x8 h7 =>
 (if x8 = 0 then
 some (oI (-1), h7)
 else
 (if l3 = 0 then
 xgR h7 l0 21 0 fun x9 =>
 xB x9 fun a10 =>
 xck h7 a10 11 <|
 kI (rn d 13 [iR (some a10), iI l1, iI l2] h7) fun x12 h11 =>
 some (oI x12, h11)
 else
 (if l3 = 1 then
 xgR h7 l0 21 0 fun x13 =>
 xB x13 fun a14 =>
 xck h7 a14 11 <|
 kI (rn d 14 [iR (some a14), iI l1, iI l2] h7) fun x16 h15 =>
 some (oI x16, h15)
 else
 some (oI (-1), h7))))))) := rfl
-- TownSundays.terms(II)I
theorem r_T_terms (d : Nat) (l0 : Nat) (l1 : Int) (l2 : Int) (h : IH) : rn (d + 1) 104 [iR (some l0), iI l1, iI l2] h = lp d 104 (999999 + 1) 0 [some (iR (some l0)), some (iI l1), some (iI l2), none] [] h := rn_lp rfl rfl
set_option maxRecDepth 20000 in
set_option maxHeartbeats 4000000 in
theorem e_T_terms (d n : Nat) (l0 : Nat) (l1 : Int) (l2 : Int) (h : IH) :
 lp d 104 (n + 1) 0 [some (iR (some l0)), some (iI l1), some (iI l2), none] [] h =
 ((if l1 < 0 then
 xck h l0 21 <|
 kI (rn d 142 [iR (some l0), iI (-1)] h) fun x2 h1 =>
 some (oI x2, h1)
 else
 xle h 1 fun x3 =>
 (if l1 < x3 then
 (if l2 < 0 then
 xck h l0 21 <|
 kI (rn d 142 [iR (some l0), iI (-1)] h) fun x5 h4 =>
 some (oI x5, h4)
 else
 xaI h 1 l1 fun x6 =>
 (if l2 ≤ x6 then
 xgR h l0 21 0 fun x7 =>
 xB x7 fun a9 =>
 xgR h a9 11 8 fun x8 =>
 xB x8 fun a11 =>
 xaI h a11 l1 fun x10 =>
 xgR h l0 21 0 fun x12 =>
 xB x12 fun a14 =>
 xgR h a14 11 8 fun x13 =>
 xB x13 fun a16 =>
 xsI h a16 l1 l2 fun h15 =>
 xgR h15 l0 21 9 fun x17 =>
 xB x17 fun a18 =>
 xck h15 a18 14 <|
 kV (rn d 47 [iR (some a18)] h15) fun h19 =>
 xck h19 l0 21 <|
 kI (rn d 140 [iR (some l0), iI x10] h19) fun x21 h20 =>
 some (oI x21, h20)
 else
 xck h l0 21 <|
 kI (rn d 142 [iR (some l0), iI (-1)] h) fun x23 h22 =>
 some (oI x23, h22)))
 else
 xck h l0 21 <|
 kI (rn d 142 [iR (some l0), iI (-1)] h) fun x25 h24 =>
 some (oI x25, h24)))) := rfl
-- TownSundays.feed(IIIII)I
theorem r_T_feed (d : Nat) (l0 : Nat) (l1 : Int) (l2 : Int) (l3 : Int) (l4 : Int) (l5 : Int) (h : IH) : rn (d + 1) 105 [iR (some l0), iI l1, iI l2, iI l3, iI l4, iI l5] h = lp d 105 (999999 + 1) 0 [some (iR (some l0)), some (iI l1), some (iI l2), some (iI l3), some (iI l4), some (iI l5)] [] h := rn_lp rfl rfl
set_option maxRecDepth 20000 in
set_option maxHeartbeats 4000000 in
theorem e_T_feed (d n : Nat) (l0 : Nat) (l1 : Int) (l2 : Int) (l3 : Int) (l4 : Int) (l5 : Int) (h : IH) :
 lp d 105 (n + 1) 0 [some (iR (some l0)), some (iI l1), some (iI l2), some (iI l3), some (iI l4), some (iI l5)] [] h =
 (xgR h l0 21 4 fun x1 =>
 xB x1 fun a2 =>
 xck h a2 18 <|
 kI (rn d 80 [iR (some a2)] h) fun x4 h3 =>
 (if x4 = 0 then
 some (oI (-1), h3)
 else
 xgR h3 l0 21 4 fun x5 =>
 xB x5 fun a6 =>
 xck h3 a6 18 <|
 kV (rn d 81 [iR (some a6), iI l1] h3) fun h7 =>
 xgR h7 l0 21 4 fun x8 =>
 xB x8 fun a9 =>
 xck h7 a9 18 <|
 kV (rn d 81 [iR (some a9), iI l2] h7) fun h10 =>
 xgR h10 l0 21 4 fun x11 =>
 xB x11 fun a12 =>
 xck h10 a12 18 <|
 kV (rn d 81 [iR (some a12), iI l3] h10) fun h13 =>
 xgR h13 l0 21 4 fun x14 =>
 xB x14 fun a15 =>
 xck h13 a15 18 <|
 kV (rn d 81 [iR (some a15), iI l4] h13) fun h16 =>
 xgR h16 l0 21 4 fun x17 =>
 xB x17 fun a18 =>
 xck h16 a18 18 <|
 kV (rn d 81 [iR (some a18), iI l5] h16) fun h19 =>
 xgR h19 l0 21 4 fun x20 =>
 xB x20 fun a22 =>
 xgI h19 a22 18 1 fun x21 =>
 some (oI x21, h19))) := rfl
-- TownSundays.end(I)I
theorem r_T_end (d : Nat) (l0 : Nat) (l1 : Int) (h : IH) : rn (d + 1) 106 [iR (some l0), iI l1] h = lp d 106 (999999 + 1) 0 [some (iR (some l0)), some (iI l1)] [] h := rn_lp rfl rfl
set_option maxRecDepth 20000 in
set_option maxHeartbeats 4000000 in
theorem e_T_end (d n : Nat) (l0 : Nat) (l1 : Int) (h : IH) :
 lp d 106 (n + 1) 0 [some (iR (some l0)), some (iI l1)] [] h =
 ((if l1 < 0 then
 some (oI (-1), h)
 else
 xgR h l0 21 4 fun x1 =>
 xB x1 fun a3 =>
 xgI h a3 18 1 fun x2 =>
 (if l1 ≤ x2 then
 xgR h l0 21 4 fun x4 =>
 xB x4 fun a6 =>
 xpI h a6 18 1 l1 fun h5 =>
 some (oI l1, h5)
 else
 some (oI (-1), h)))) := rfl
-- TownSundays.row()I
theorem r_T_row (d : Nat) (l0 : Nat) (h : IH) : rn (d + 1) 107 [iR (some l0)] h = lp d 107 (999999 + 1) 0 [some (iR (some l0)), none, none, none] [] h := rn_lp rfl rfl
set_option maxRecDepth 20000 in
set_option maxHeartbeats 4000000 in
theorem e_T_row (d n : Nat) (l0 : Nat) (h : IH) :
 lp d 107 (n + 1) 0 [some (iR (some l0)), none, none, none] [] h =
 (xgR h l0 21 4 fun x1 =>
 xB x1 fun a3 =>
 xgI h a3 18 1 fun x2 =>
 (if x2 = 0 then
 xck h l0 21 <|
 kI (rn d 142 [iR (some l0), iI (-6)] h) fun x5 h4 =>
 some (oI x5, h4)
 else
 lp d 107 n 23 [some (iR (some l0)), some (iI 0), some (iI 0), some (iI 0)] [] h)) := rfl
set_option maxRecDepth 20000 in
set_option maxHeartbeats 4000000 in
theorem e_T_row_23 (d n : Nat) (l0 : Nat) (l1 : Int) (l2 : Int) (l3 : Int) (h : IH) :
 lp d 107 (n + 1) 23 [some (iR (some l0)), some (iI l1), some (iI l2), some (iI l3)] [] h =
 (xgR h l0 21 4 fun x1 =>
 xB x1 fun a3 =>
 xgI h a3 18 1 fun x2 =>
 (if l3 < x2 then
 xck h l0 21 <|
 kI (rn d 143 [iR (some l0), iI l3] h) fun x5 h4 =>
 (if x5 = 0 then
 lp d 107 n 23 [some (iR (some l0)), some (iI l1), some (iI (wr (l2 + 1))), some (iI (wr (l3 + 3)))] [] h4
 else
 xgR h4 l0 21 0 fun x6 =>
 xgR h4 l0 21 4 fun x7 =>
 xB x7 fun a9 =>
 xgR h4 a9 18 0 fun x8 =>
 xB x8 fun a11 =>
 xaI h4 a11 l3 fun x10 =>
 xgR h4 l0 21 4 fun x12 =>
 xB x12 fun a14 =>
 xgR h4 a14 18 0 fun x13 =>
 xB x13 fun a16 =>
 xaI h4 a16 (wr (l3 + 1)) fun x15 =>
 xgR h4 l0 21 4 fun x17 =>
 xB x17 fun a19 =>
 xgR h4 a19 18 0 fun x18 =>
 xB x18 fun a21 =>
 xaI h4 a21 (wr (l3 + 2)) fun x20 =>
 xB x6 fun a22 =>
 xck h4 a22 11 <|
 kV (rn d 15 [iR (some a22), iI x10, iI x15, iI x20] h4) fun h23 =>
 lp d 107 n 23 [some (iR (some l0)), some (iI (wr (l1 + 1))), some (iI l2), some (iI (wr (l3 + 3)))] [] h23)
 else
 xgR h l0 21 4 fun x24 =>
 xB x24 fun a26 =>
 xpI h a26 18 1 0 fun h25 =>
 xpI h25 l0 21 16 l2 fun h27 =>
 xgR h27 l0 21 9 fun x28 =>
 xB x28 fun a29 =>
 xck h27 a29 14 <|
 kV (rn d 47 [iR (some a29)] h27) fun h30 =>
 xck h30 l0 21 <|
 kI (rn d 140 [iR (some l0), iI l1] h30) fun x32 h31 =>
 some (oI x32, h31))) := rfl
-- TownSundays.sidings()I
theorem r_T_sidings (d : Nat) (l0 : Nat) (h : IH) : rn (d + 1) 108 [iR (some l0)] h = lp d 108 (999999 + 1) 0 [some (iR (some l0))] [] h := rn_lp rfl rfl
set_option maxRecDepth 20000 in
set_option maxHeartbeats 4000000 in
theorem e_T_sidings (d n : Nat) (l0 : Nat) (h : IH) :
 lp d 108 (n + 1) 0 [some (iR (some l0))] [] h =
 (xgI h l0 21 16 fun x1 =>
 some (oI x1, h)) := rfl
-- TownSundays.law()I
theorem r_T_law (d : Nat) (l0 : Nat) (h : IH) : rn (d + 1) 109 [iR (some l0)] h = lp d 109 (999999 + 1) 0 [some (iR (some l0)), none, none] [] h := rn_lp rfl rfl
set_option maxRecDepth 20000 in
set_option maxHeartbeats 4000000 in
theorem e_T_law (d n : Nat) (l0 : Nat) (h : IH) :
 lp d 109 (n + 1) 0 [some (iR (some l0)), none, none] [] h =
 (xgR h l0 21 0 fun x1 =>
 xB x1 fun a3 =>
 xgI h a3 11 13 fun x2 =>
 (if x2 < 6 then
 xgR h l0 21 5 fun x4 =>
 xgR h l0 21 4 fun x5 =>
 xB x5 fun a7 =>
 xgR h a7 18 0 fun x6 =>
 xgR h l0 21 4 fun x8 =>
 xB x8 fun a10 =>
 xgI h a10 18 1 fun x9 =>
 xB x4 fun a11 =>
 xck h a11 15 <|
 kI (rn d 53 [iR (some a11), iR x6, iI x9, iI 0] h) fun x13 h12 =>
 xgR h12 l0 21 4 fun x14 =>
 xB x14 fun a16 =>
 xpI h12 a16 18 1 0 fun h15 =>
 (if x13 = 0 then
 xck h15 l0 21 <|
 kI (rn d 142 [iR (some l0), iI (-6)] h15) fun x18 h17 =>
 some (oI x18, h17)
 else
 xgR h15 l0 21 0 fun x19 =>
 xB x19 fun a21 =>
 xgI h15 a21 11 13 fun x20 =>
 xgR h15 l0 21 0 fun x22 =>
 xB x22 fun a24 =>
 xgR h15 a24 11 12 fun x23 =>
 xgR h15 l0 21 5 fun x25 =>
 xB x25 fun a27 =>
 xgR h15 a27 15 0 fun x26 =>
 xB x26 fun a28 =>
 xck h15 a28 19 <|
 kR (rn d 87 [iR (some a28)] h15) fun x30 h29 =>
 xB x23 fun a32 =>
 xsR h29 a32 x20 x30 fun h31 =>
 xgR h31 l0 21 0 fun x33 =>
 xB x33 fun a35 =>
 xgI h31 a35 11 13 fun x34 =>
 xB x33 fun a37 =>
 xpI h31 a37 11 13 (wr (x34 + 1)) fun h36 =>
 xck h36 l0 21 <|
 kI (rn d 140 [iR (some l0), iI x20] h36) fun x39 h38 =>
 some (oI x39, h38))
 else
 xgR h l0 21 4 fun x40 =>
 xB x40 fun a42 =>
 xpI h a42 18 1 0 fun h41 =>
 xck h41 l0 21 <|
 kI (rn d 142 [iR (some l0), iI (-5)] h41) fun x44 h43 =>
 some (oI x44, h43))) := rfl
-- TownSundays.orders()I
theorem r_T_orders (d : Nat) (l0 : Nat) (h : IH) : rn (d + 1) 110 [iR (some l0)] h = lp d 110 (999999 + 1) 0 [some (iR (some l0)), none] [] h := rn_lp rfl rfl
set_option maxRecDepth 20000 in
set_option maxHeartbeats 4000000 in
theorem e_T_orders (d n : Nat) (l0 : Nat) (h : IH) :
 lp d 110 (n + 1) 0 [some (iR (some l0)), none] [] h =
 (xgR h l0 21 5 fun x1 =>
 xgR h l0 21 4 fun x2 =>
 xB x2 fun a4 =>
 xgR h a4 18 0 fun x3 =>
 xgR h l0 21 4 fun x5 =>
 xB x5 fun a7 =>
 xgI h a7 18 1 fun x6 =>
 xB x1 fun a8 =>
 xck h a8 15 <|
 kI (rn d 53 [iR (some a8), iR x3, iI x6, iI 1] h) fun x10 h9 =>
 xgR h9 l0 21 4 fun x11 =>
 xB x11 fun a13 =>
 xpI h9 a13 18 1 0 fun h12 =>
 xpI h12 l0 21 17 (-1) fun h14 =>
 (if x10 = 0 then
 xck h14 l0 21 <|
 kI (rn d 142 [iR (some l0), iI (-6)] h14) fun x16 h15 =>
 some (oI x16, h15)
 else
 xgR h14 l0 21 1 fun x17 =>
 xgR h14 l0 21 0 fun x18 =>
 xB x17 fun a19 =>
 xck h14 a19 11 <|
 kV (rn d 9 [iR (some a19), iR x18] h14) fun h20 =>
 xgR h20 l0 21 10 fun x21 =>
 xgR h20 l0 21 9 fun x22 =>
 xB x21 fun a23 =>
 xck h20 a23 14 <|
 kV (rn d 48 [iR (some a23), iR x22] h20) fun h24 =>
 xgR h24 l0 21 8 fun x25 =>
 xgR h24 l0 21 5 fun x26 =>
 xB x26 fun a28 =>
 xgR h24 a28 15 0 fun x27 =>
 xgR h24 l0 21 0 fun x29 =>
 xgR h24 l0 21 9 fun x30 =>
 xB x25 fun a31 =>
 xck h24 a31 17 <|
 kI (rn d 76 [iR (some a31), iR x27, iR x29, iR x30] h24) fun x33 h32 =>
 xpI h32 l0 21 17 x33 fun h34 =>
 xgI h34 l0 21 17 fun x35 =>
 (if x35 = (-1) then
 xgR h34 l0 21 8 fun x36 =>
 xB x36 fun a38 =>
 xgI h34 a38 17 0 fun x37 =>
 xck h34 l0 21 <|
 kI (rn d 140 [iR (some l0), iI x37] h34) fun x40 h39 =>
 some (oI x40, h39)
 else
 xgR h34 l0 21 0 fun x41 =>
 xgR h34 l0 21 1 fun x42 =>
 xB x41 fun a43 =>
 xck h34 a43 11 <|
 kV (rn d 9 [iR (some a43), iR x42] h34) fun h44 =>
 lp d 110 n 126 [some (iR (some l0)), none] [] h44))) := rfl
set_option maxRecDepth 20000 in
set_option maxHeartbeats 4000000 in
theorem e_T_orders_126 (d n : Nat) (l0 : Nat) (h : IH) :
 lp d 110 (n + 1) 126 [some (iR (some l0)), none] [] h =
 (xgR h l0 21 9 fun x1 =>
 xgR h l0 21 10 fun x2 =>
 xB x1 fun a3 =>
 xck h a3 14 <|
 kV (rn d 48 [iR (some a3), iR x2] h) fun h4 =>
 xck h4 l0 21 <|
 kI (rn d 142 [iR (some l0), iI (-3)] h4) fun x6 h5 =>
 some (oI x6, h5)) := rfl
-- TownSundays.fault()I
theorem r_T_fault (d : Nat) (l0 : Nat) (h : IH) : rn (d + 1) 111 [iR (some l0)] h = lp d 111 (999999 + 1) 0 [some (iR (some l0))] [] h := rn_lp rfl rfl
set_option maxRecDepth 20000 in
set_option maxHeartbeats 4000000 in
theorem e_T_fault (d n : Nat) (l0 : Nat) (h : IH) :
 lp d 111 (n + 1) 0 [some (iR (some l0))] [] h =
 (xgR h l0 21 5 fun x1 =>
 xB x1 fun a3 =>
 xgI h a3 15 1 fun x2 =>
 some (oI x2, h)) := rfl
-- TownSundays.stopped()I
theorem r_T_stopped (d : Nat) (l0 : Nat) (h : IH) : rn (d + 1) 112 [iR (some l0)] h = lp d 112 (999999 + 1) 0 [some (iR (some l0))] [] h := rn_lp rfl rfl
set_option maxRecDepth 20000 in
set_option maxHeartbeats 4000000 in
theorem e_T_stopped (d n : Nat) (l0 : Nat) (h : IH) :
 lp d 112 (n + 1) 0 [some (iR (some l0))] [] h =
 (xgI h l0 21 17 fun x1 =>
 some (oI x1, h)) := rfl
-- TownSundays.force(I)I
theorem r_T_force (d : Nat) (l0 : Nat) (l1 : Int) (h : IH) : rn (d + 1) 113 [iR (some l0), iI l1] h = lp d 113 (999999 + 1) 0 [some (iR (some l0)), some (iI l1), none] [] h := rn_lp rfl rfl
set_option maxRecDepth 20000 in
set_option maxHeartbeats 4000000 in
theorem e_T_force (d n : Nat) (l0 : Nat) (l1 : Int) (h : IH) :
 lp d 113 (n + 1) 0 [some (iR (some l0)), some (iI l1), none] [] h =
 ((if l1 = (-1) then
 xgR h l0 21 0 fun x1 =>
 xB x1 fun a3 =>
 xgI h a3 11 14 fun x2 =>
 xgR h l0 21 0 fun x4 =>
 xB x4 fun a6 =>
 xpI h a6 11 14 l1 fun h5 =>
 xck h5 l0 21 <|
 kI (rn d 140 [iR (some l0), iI x2] h5) fun x8 h7 =>
 some (oI x8, h7)
 else
 xgR h l0 21 0 fun x9 =>
 xB x9 fun a10 =>
 xck h a10 11 <|
 kI (rn d 11 [iR (some a10), iI l1] h) fun x12 h11 =>
 (if x12 = 0 then
 xck h11 l0 21 <|
 kI (rn d 142 [iR (some l0), iI (-2)] h11) fun x14 h13 =>
 some (oI x14, h13)
 else
 xgR h11 l0 21 0 fun x15 =>
 xB x15 fun a17 =>
 xgI h11 a17 11 14 fun x16 =>
 xgR h11 l0 21 0 fun x18 =>
 xB x18 fun a20 =>
 xpI h11 a20 11 14 l1 fun h19 =>
 xck h19 l0 21 <|
 kI (rn d 140 [iR (some l0), iI x16] h19) fun x22 h21 =>
 some (oI x22, h21)))) := rfl
-- TownSundays.swap(II)I
theorem r_T_swap (d : Nat) (l0 : Nat) (l1 : Int) (l2 : Int) (h : IH) : rn (d + 1) 114 [iR (some l0), iI l1, iI l2] h = lp d 114 (999999 + 1) 0 [some (iR (some l0)), some (iI l1), some (iI l2), none] [] h := rn_lp rfl rfl
set_option maxRecDepth 20000 in
set_option maxHeartbeats 4000000 in
theorem e_T_swap (d n : Nat) (l0 : Nat) (l1 : Int) (l2 : Int) (h : IH) :
 lp d 114 (n + 1) 0 [some (iR (some l0)), some (iI l1), some (iI l2), none] [] h =
 (xgR h l0 21 9 fun x1 =>
 xgR h l0 21 0 fun x2 =>
 xB x1 fun a3 =>
 xck h a3 14 <|
 kV (rn d 49 [iR (some a3), iR x2, iI 0] h) fun h4 =>
 xgR h4 l0 21 7 fun x5 =>
 xgR h4 l0 21 0 fun x6 =>
 xB x5 fun a7 =>
 xck h4 a7 12 <|
 kI (rn d 21 [iR (some a7), iR x6, iI l1, iI l2] h4) fun x9 h8 =>
 (if x9 < 0 then
 xck h8 l0 21 <|
 kI (rn d 142 [iR (some l0), iI x9] h8) fun x11 h10 =>
 some (oI x11, h10)
 else
 xck h8 l0 21 <|
 kI (rn d 141 [iR (some l0), iI x9] h8) fun x13 h12 =>
 some (oI x13, h12))) := rfl
-- TownSundays.round(III)I
theorem r_T_round (d : Nat) (l0 : Nat) (l1 : Int) (l2 : Int) (l3 : Int) (h : IH) : rn (d + 1) 115 [iR (some l0), iI l1, iI l2, iI l3] h = lp d 115 (999999 + 1) 0 [some (iR (some l0)), some (iI l1), some (iI l2), some (iI l3), none] [] h := rn_lp rfl rfl
set_option maxRecDepth 20000 in
set_option maxHeartbeats 4000000 in
theorem e_T_round (d n : Nat) (l0 : Nat) (l1 : Int) (l2 : Int) (l3 : Int) (h : IH) :
 lp d 115 (n + 1) 0 [some (iR (some l0)), some (iI l1), some (iI l2), some (iI l3), none] [] h =
 (xgR h l0 21 9 fun x1 =>
 xgR h l0 21 0 fun x2 =>
 xB x1 fun a3 =>
 xck h a3 14 <|
 kV (rn d 49 [iR (some a3), iR x2, iI 1] h) fun h4 =>
 xgR h4 l0 21 7 fun x5 =>
 xgR h4 l0 21 0 fun x6 =>
 xB x5 fun a7 =>
 xck h4 a7 12 <|
 kI (rn d 22 [iR (some a7), iR x6, iI l1, iI l2, iI l3] h4) fun x9 h8 =>
 (if x9 < 0 then
 xck h8 l0 21 <|
 kI (rn d 142 [iR (some l0), iI x9] h8) fun x11 h10 =>
 some (oI x11, h10)
 else
 xck h8 l0 21 <|
 kI (rn d 141 [iR (some l0), iI x9] h8) fun x13 h12 =>
 some (oI x13, h12))) := rfl
-- TownSundays.close(II)I
theorem r_T_close (d : Nat) (l0 : Nat) (l1 : Int) (l2 : Int) (h : IH) : rn (d + 1) 116 [iR (some l0), iI l1, iI l2] h = lp d 116 (999999 + 1) 0 [some (iR (some l0)), some (iI l1), some (iI l2), none] [] h := rn_lp rfl rfl
set_option maxRecDepth 20000 in
set_option maxHeartbeats 4000000 in
theorem e_T_close (d n : Nat) (l0 : Nat) (l1 : Int) (l2 : Int) (h : IH) :
 lp d 116 (n + 1) 0 [some (iR (some l0)), some (iI l1), some (iI l2), none] [] h =
 (xgR h l0 21 9 fun x1 =>
 xgR h l0 21 0 fun x2 =>
 xB x1 fun a3 =>
 xck h a3 14 <|
 kV (rn d 49 [iR (some a3), iR x2, iI 2] h) fun h4 =>
 xgR h4 l0 21 7 fun x5 =>
 xgR h4 l0 21 0 fun x6 =>
 xB x5 fun a7 =>
 xck h4 a7 12 <|
 kI (rn d 23 [iR (some a7), iR x6, iI l1, iI l2] h4) fun x9 h8 =>
 (if x9 < 0 then
 xck h8 l0 21 <|
 kI (rn d 142 [iR (some l0), iI x9] h8) fun x11 h10 =>
 some (oI x11, h10)
 else
 xck h8 l0 21 <|
 kI (rn d 141 [iR (some l0), iI x9] h8) fun x13 h12 =>
 some (oI x13, h12))) := rfl
-- TownSundays.pass()I
theorem r_T_pass (d : Nat) (l0 : Nat) (h : IH) : rn (d + 1) 117 [iR (some l0)] h = lp d 117 (999999 + 1) 0 [some (iR (some l0)), none] [] h := rn_lp rfl rfl
set_option maxRecDepth 20000 in
set_option maxHeartbeats 4000000 in
theorem e_T_pass (d n : Nat) (l0 : Nat) (h : IH) :
 lp d 117 (n + 1) 0 [some (iR (some l0)), none] [] h =
 (xgR h l0 21 9 fun x1 =>
 xgR h l0 21 0 fun x2 =>
 xB x1 fun a3 =>
 xck h a3 14 <|
 kV (rn d 49 [iR (some a3), iR x2, iI 3] h) fun h4 =>
 xgR h4 l0 21 7 fun x5 =>
 xgR h4 l0 21 0 fun x6 =>
 xB x5 fun a7 =>
 xck h4 a7 12 <|
 kI (rn d 24 [iR (some a7), iR x6] h4) fun x9 h8 =>
 (if x9 < 0 then
 xck h8 l0 21 <|
 kI (rn d 142 [iR (some l0), iI x9] h8) fun x11 h10 =>
 some (oI x11, h10)
 else
 xck h8 l0 21 <|
 kI (rn d 141 [iR (some l0), iI x9] h8) fun x13 h12 =>
 some (oI x13, h12))) := rfl
-- TownSundays.undo()I
theorem r_T_undo (d : Nat) (l0 : Nat) (h : IH) : rn (d + 1) 118 [iR (some l0)] h = lp d 118 (999999 + 1) 0 [some (iR (some l0))] [] h := rn_lp rfl rfl
set_option maxRecDepth 20000 in
set_option maxHeartbeats 4000000 in
theorem e_T_undo (d n : Nat) (l0 : Nat) (h : IH) :
 lp d 118 (n + 1) 0 [some (iR (some l0))] [] h =
 (xgR h l0 21 9 fun x1 =>
 xB x1 fun a3 =>
 xgI h a3 14 0 fun x2 =>
 (if x2 = 0 then
 xck h l0 21 <|
 kI (rn d 142 [iR (some l0), iI (-3)] h) fun x5 h4 =>
 some (oI x5, h4)
 else
 xgR h l0 21 9 fun x6 =>
 xgR h l0 21 0 fun x7 =>
 xB x6 fun a8 =>
 xck h a8 14 <|
 kI (rn d 51 [iR (some a8), iR x7] h) fun x10 h9 =>
 xck h9 l0 21 <|
 kI (rn d 140 [iR (some l0), iI x10] h9) fun x12 h11 =>
 some (oI x12, h11))) := rfl
-- TownSundays.rings(I)I
theorem r_T_rings (d : Nat) (l0 : Nat) (l1 : Int) (h : IH) : rn (d + 1) 119 [iR (some l0), iI l1] h = lp d 119 (999999 + 1) 0 [some (iR (some l0)), some (iI l1)] [] h := rn_lp rfl rfl
set_option maxRecDepth 20000 in
set_option maxHeartbeats 4000000 in
theorem e_T_rings (d n : Nat) (l0 : Nat) (l1 : Int) (h : IH) :
 lp d 119 (n + 1) 0 [some (iR (some l0)), some (iI l1)] [] h =
 ((if l1 = (-1) then
 (if l1 = (-1) then
 xck h l0 21 <|
 kI (rn d 145 [iR (some l0)] h) fun x2 h1 =>
 some (oI x2, h1)
 else
 xck h l0 21 <|
 kI (rn d 144 [iR (some l0), iI l1] h) fun x4 h3 =>
 some (oI x4, h3))
 else
 xgR h l0 21 0 fun x5 =>
 xB x5 fun a6 =>
 xck h a6 11 <|
 kI (rn d 10 [iR (some a6), iI l1] h) fun x8 h7 =>
 (if x8 = 0 then
 some (oI (-1), h7)
 else
 (if l1 = (-1) then
 xck h7 l0 21 <|
 kI (rn d 145 [iR (some l0)] h7) fun x10 h9 =>
 some (oI x10, h9)
 else
 xck h7 l0 21 <|
 kI (rn d 144 [iR (some l0), iI l1] h7) fun x12 h11 =>
 some (oI x12, h11))))) := rfl
-- TownSundays.repeated()I
theorem r_T_repeated (d : Nat) (l0 : Nat) (h : IH) : rn (d + 1) 120 [iR (some l0)] h = lp d 120 (999999 + 1) 0 [some (iR (some l0)), none, none] [] h := rn_lp rfl rfl
set_option maxRecDepth 20000 in
set_option maxHeartbeats 4000000 in
theorem e_T_repeated (d n : Nat) (l0 : Nat) (h : IH) :
 lp d 120 (n + 1) 0 [some (iR (some l0)), none, none] [] h =
 (lp d 120 n 4 [some (iR (some l0)), some (iI 1), some (iI 0)] [] h) := rfl
set_option maxRecDepth 20000 in
set_option maxHeartbeats 4000000 in
theorem e_T_repeated_4 (d n : Nat) (l0 : Nat) (l1 : Int) (l2 : Int) (h : IH) :
 lp d 120 (n + 1) 4 [some (iR (some l0)), some (iI l1), some (iI l2)] [] h =
 (xgR h l0 21 0 fun x1 =>
 xB x1 fun a3 =>
 xgI h a3 11 0 fun x2 =>
 (if l2 < x2 then
 xck h l0 21 <|
 kI (rn d 144 [iR (some l0), iI l2] h) fun x5 h4 =>
 kI (rn d 146 [iI l1, iI x5] h4) fun x7 h6 =>
 lp d 120 n 4 [some (iR (some l0)), some (iI x7), some (iI (wr (l2 + 1)))] [] h6
 else
 some (oI l1, h))) := rfl
-- TownSundays.mostLiked(I)I
theorem r_T_mostLiked (d : Nat) (l0 : Nat) (l1 : Int) (h : IH) : rn (d + 1) 121 [iR (some l0), iI l1] h = lp d 121 (999999 + 1) 0 [some (iR (some l0)), some (iI l1)] [] h := rn_lp rfl rfl
set_option maxRecDepth 20000 in
set_option maxHeartbeats 4000000 in
theorem e_T_mostLiked (d n : Nat) (l0 : Nat) (l1 : Int) (h : IH) :
 lp d 121 (n + 1) 0 [some (iR (some l0)), some (iI l1)] [] h =
 ((if l1 = (-1) then
 xgR h l0 21 11 fun x1 =>
 xgR h l0 21 0 fun x2 =>
 xgR h l0 21 6 fun x3 =>
 xB x1 fun a4 =>
 xck h a4 13 <|
 kV (rn d 30 [iR (some a4), iR x2, iR x3] h) fun h5 =>
 xgR h5 l0 21 11 fun x6 =>
 xgR h5 l0 21 0 fun x7 =>
 xB x7 fun a9 =>
 xgI h5 a9 11 0 fun x8 =>
 xB x6 fun a10 =>
 xck h5 a10 13 <|
 kI (rn d 35 [iR (some a10), iI x8, iI l1] h5) fun x12 h11 =>
 some (oI x12, h11)
 else
 xgR h l0 21 0 fun x13 =>
 xB x13 fun a14 =>
 xck h a14 11 <|
 kI (rn d 10 [iR (some a14), iI l1] h) fun x16 h15 =>
 (if x16 = 0 then
 some (oI (-1), h15)
 else
 xgR h15 l0 21 11 fun x17 =>
 xgR h15 l0 21 0 fun x18 =>
 xgR h15 l0 21 6 fun x19 =>
 xB x17 fun a20 =>
 xck h15 a20 13 <|
 kV (rn d 30 [iR (some a20), iR x18, iR x19] h15) fun h21 =>
 xgR h21 l0 21 11 fun x22 =>
 xgR h21 l0 21 0 fun x23 =>
 xB x23 fun a25 =>
 xgI h21 a25 11 0 fun x24 =>
 xB x22 fun a26 =>
 xck h21 a26 13 <|
 kI (rn d 35 [iR (some a26), iI x24, iI l1] h21) fun x28 h27 =>
 some (oI x28, h27)))) := rfl
-- TownSundays.anew(I)I
theorem r_T_anew (d : Nat) (l0 : Nat) (l1 : Int) (h : IH) : rn (d + 1) 122 [iR (some l0), iI l1] h = lp d 122 (999999 + 1) 0 [some (iR (some l0)), some (iI l1), none] [] h := rn_lp rfl rfl
set_option maxRecDepth 20000 in
set_option maxHeartbeats 4000000 in
theorem e_T_anew (d n : Nat) (l0 : Nat) (l1 : Int) (h : IH) :
 lp d 122 (n + 1) 0 [some (iR (some l0)), some (iI l1), none] [] h =
 ((if l1 = (-1) then
 lp d 122 n 18 [some (iR (some l0)), some (iI l1), none] [] h
 else
 xgR h l0 21 0 fun x1 =>
 xB x1 fun a2 =>
 xck h a2 11 <|
 kI (rn d 10 [iR (some a2), iI l1] h) fun x4 h3 =>
 (if x4 = 0 then
 some (oI (-1), h3)
 else
 lp d 122 n 18 [some (iR (some l0)), some (iI l1), none] [] h3))) := rfl
set_option maxRecDepth 20000 in
set_option maxHeartbeats 4000000 in
theorem e_T_anew_18 (d n : Nat) (l0 : Nat) (l1 : Int) (h : IH) :
 lp d 122 (n + 1) 18 [some (iR (some l0)), some (iI l1), none] [] h =
 (xgR h l0 21 11 fun x1 =>
 xgR h l0 21 0 fun x2 =>
 xgR h l0 21 6 fun x3 =>
 xB x1 fun a4 =>
 xck h a4 13 <|
 kV (rn d 31 [iR (some a4), iR x2, iR x3] h) fun h5 =>
 xgR h5 l0 21 11 fun x6 =>
 xgR h5 l0 21 0 fun x7 =>
 xB x7 fun a9 =>
 xgI h5 a9 11 0 fun x8 =>
 xB x6 fun a10 =>
 xck h5 a10 13 <|
 kI (rn d 35 [iR (some a10), iI x8, iI l1] h5) fun x12 h11 =>
 (if x12 = (-2147483648) then
 some (oI (-1), h11)
 else
 (if l1 = (-1) then
 some (oI (wr (-x12)), h11)
 else
 some (oI x12, h11)))) := rfl
-- TownSundays.newOnes()I
theorem r_T_newOnes (d : Nat) (l0 : Nat) (h : IH) : rn (d + 1) 123 [iR (some l0)] h = lp d 123 (999999 + 1) 0 [some (iR (some l0))] [] h := rn_lp rfl rfl
set_option maxRecDepth 20000 in
set_option maxHeartbeats 4000000 in
theorem e_T_newOnes (d n : Nat) (l0 : Nat) (h : IH) :
 lp d 123 (n + 1) 0 [some (iR (some l0))] [] h =
 (xgR h l0 21 11 fun x1 =>
 xgR h l0 21 0 fun x2 =>
 xgR h l0 21 6 fun x3 =>
 xB x1 fun a4 =>
 xck h a4 13 <|
 kV (rn d 31 [iR (some a4), iR x2, iR x3] h) fun h5 =>
 xgR h5 l0 21 11 fun x6 =>
 xgR h5 l0 21 0 fun x7 =>
 xB x7 fun a9 =>
 xgI h5 a9 11 0 fun x8 =>
 xB x6 fun a10 =>
 xck h5 a10 13 <|
 kI (rn d 32 [iR (some a10), iI x8] h5) fun x12 h11 =>
 some (oI x12, h11)) := rfl
-- TownSundays.home(I)I
theorem r_T_home (d : Nat) (l0 : Nat) (l1 : Int) (h : IH) : rn (d + 1) 124 [iR (some l0), iI l1] h = lp d 124 (999999 + 1) 0 [some (iR (some l0)), some (iI l1)] [] h := rn_lp rfl rfl
set_option maxRecDepth 20000 in
set_option maxHeartbeats 4000000 in
theorem e_T_home (d n : Nat) (l0 : Nat) (l1 : Int) (h : IH) :
 lp d 124 (n + 1) 0 [some (iR (some l0)), some (iI l1)] [] h =
 (xgR h l0 21 12 fun x1 =>
 xgR h l0 21 0 fun x2 =>
 xgR h l0 21 6 fun x3 =>
 xB x1 fun a4 =>
 xck h a4 20 <|
 kV (rn d 89 [iR (some a4), iR x2, iR x3] h) fun h5 =>
 xgR h5 l0 21 12 fun x6 =>
 xB x6 fun a8 =>
 xgI h5 a8 20 0 fun x7 =>
 (if x7 = (-1) then
 some (oI (-1), h5)
 else
 (if l1 < (-1) then
 some (oI (-1), h5)
 else
 xgR h5 l0 21 12 fun x9 =>
 xB x9 fun a11 =>
 xgI h5 a11 20 0 fun x10 =>
 (if l1 < x10 then
 (if l1 = (-1) then
 xgR h5 l0 21 12 fun x12 =>
 xB x12 fun a14 =>
 xgI h5 a14 20 0 fun x13 =>
 some (oI x13, h5)
 else
 xgR h5 l0 21 12 fun x15 =>
 xB x15 fun a16 =>
 xck h5 a16 20 <|
 kI (rn d 90 [iR (some a16), iI l1] h5) fun x18 h17 =>
 some (oI x18, h17))
 else
 some (oI (-1), h5))))) := rfl
-- TownSundays.market(I)I
theorem r_T_market (d : Nat) (l0 : Nat) (l1 : Int) (h : IH) : rn (d + 1) 125 [iR (some l0), iI l1] h = lp d 125 (999999 + 1) 0 [some (iR (some l0)), some (iI l1)] [] h := rn_lp rfl rfl
set_option maxRecDepth 20000 in
set_option maxHeartbeats 4000000 in
theorem e_T_market (d n : Nat) (l0 : Nat) (l1 : Int) (h : IH) :
 lp d 125 (n + 1) 0 [some (iR (some l0)), some (iI l1)] [] h =
 (xgR h l0 21 0 fun x1 =>
 xB x1 fun a2 =>
 xck h a2 11 <|
 kI (rn d 10 [iR (some a2), iI l1] h) fun x4 h3 =>
 (if x4 = 0 then
 some (oI (-1), h3)
 else
 xgR h3 l0 21 11 fun x5 =>
 xgR h3 l0 21 0 fun x6 =>
 xgR h3 l0 21 6 fun x7 =>
 xB x5 fun a8 =>
 xck h3 a8 13 <|
 kV (rn d 28 [iR (some a8), iR x6, iR x7] h3) fun h9 =>
 xgR h9 l0 21 11 fun x10 =>
 xgR h9 l0 21 0 fun x11 =>
 xgR h9 l0 21 6 fun x12 =>
 xB x10 fun a13 =>
 xck h9 a13 13 <|
 kV (rn d 29 [iR (some a13), iR x11, iR x12] h9) fun h14 =>
 xgR h14 l0 21 11 fun x15 =>
 xgR h14 l0 21 0 fun x16 =>
 xB x15 fun a17 =>
 xck h14 a17 13 <|
 kI (rn d 37 [iR (some a17), iR x16, iI l1] h14) fun x19 h18 =>
 some (oI x19, h18))) := rfl
-- TownSundays.bargains(I)I
theorem r_T_bargains (d : Nat) (l0 : Nat) (l1 : Int) (h : IH) : rn (d + 1) 126 [iR (some l0), iI l1] h = lp d 126 (999999 + 1) 0 [some (iR (some l0)), some (iI l1)] [] h := rn_lp rfl rfl
set_option maxRecDepth 20000 in
set_option maxHeartbeats 4000000 in
theorem e_T_bargains (d n : Nat) (l0 : Nat) (l1 : Int) (h : IH) :
 lp d 126 (n + 1) 0 [some (iR (some l0)), some (iI l1)] [] h =
 ((if l1 < (-1) then
 some (oI (-1), h)
 else
 xgR h l0 21 11 fun x1 =>
 xgR h l0 21 0 fun x2 =>
 xgR h l0 21 6 fun x3 =>
 xB x1 fun a4 =>
 xck h a4 13 <|
 kV (rn d 28 [iR (some a4), iR x2, iR x3] h) fun h5 =>
 xgR h5 l0 21 11 fun x6 =>
 xgR h5 l0 21 0 fun x7 =>
 xgR h5 l0 21 6 fun x8 =>
 xB x6 fun a9 =>
 xck h5 a9 13 <|
 kV (rn d 29 [iR (some a9), iR x7, iR x8] h5) fun h10 =>
 xgR h10 l0 21 11 fun x11 =>
 xgR h10 l0 21 0 fun x12 =>
 xB x11 fun a13 =>
 xck h10 a13 13 <|
 kI (rn d 41 [iR (some a13), iR x12, iI l1] h10) fun x15 h14 =>
 some (oI x15, h14))) := rfl
-- TownSundays.envy(I)I
theorem r_T_envy (d : Nat) (l0 : Nat) (l1 : Int) (h : IH) : rn (d + 1) 127 [iR (some l0), iI l1] h = lp d 127 (999999 + 1) 0 [some (iR (some l0)), some (iI l1), none, none, none, none] [] h := rn_lp rfl rfl
set_option maxRecDepth 20000 in
set_option maxHeartbeats 4000000 in
theorem e_T_envy (d n : Nat) (l0 : Nat) (l1 : Int) (h : IH) :
 lp d 127 (n + 1) 0 [some (iR (some l0)), some (iI l1), none, none, none, none] [] h =
 (xgR h l0 21 0 fun x1 =>
 xB x1 fun a2 =>
 xck h a2 11 <|
 kI (rn d 10 [iR (some a2), iI l1] h) fun x4 h3 =>
 (if x4 = 0 then
 some (oI (-1), h3)
 else
 xgR h3 l0 21 0 fun x5 =>
 xB x5 fun a6 =>
 xck h3 a6 11 <|
 kR (rn d 12 [iR (some a6)] h3) fun x8 h7 =>
 xgR h7 l0 21 6 fun x9 =>
 xgR h7 l0 21 0 fun x10 =>
 xgR h7 l0 21 0 fun x11 =>
 xB x11 fun a13 =>
 xgR h7 a13 11 1 fun x12 =>
 xB x12 fun a15 =>
 xaI h7 a15 l1 fun x14 =>
 xB x9 fun a16 =>
 xck h7 a16 10 <|
 kI (rn d 1 [iR (some a16), iR x10, iR x8, iI l1, iI x14] h7) fun x18 h17 =>
 lp d 127 n 50 [some (iR (some l0)), some (iI l1), some (iR x8), some (iI x18), some (iI 0), some (iI 0)] [] h17)) := rfl
set_option maxRecDepth 20000 in
set_option maxHeartbeats 4000000 in
theorem e_T_envy_50 (d n : Nat) (l0 : Nat) (l1 : Int) (l2 : Option Nat) (l3 : Int) (l4 : Int) (l5 : Int) (h : IH) :
 lp d 127 (n + 1) 50 [some (iR (some l0)), some (iI l1), some (iR l2), some (iI l3), some (iI l4), some (iI l5)] [] h =
 (xgR h l0 21 0 fun x1 =>
 xB x1 fun a3 =>
 xgI h a3 11 0 fun x2 =>
 (if l5 < x2 then
 xgR h l0 21 6 fun x4 =>
 xgR h l0 21 0 fun x5 =>
 xgR h l0 21 0 fun x6 =>
 xB x6 fun a8 =>
 xgR h a8 11 1 fun x7 =>
 xB x7 fun a10 =>
 xaI h a10 l5 fun x9 =>
 xB x4 fun a11 =>
 xck h a11 10 <|
 kI (rn d 1 [iR (some a11), iR x5, iR l2, iI l1, iI x9] h) fun x13 h12 =>
 (if x13 ≤ l3 then
 lp d 127 n 50 [some (iR (some l0)), some (iI l1), some (iR l2), some (iI l3), some (iI l4), some (iI (wr (l5 + 1)))] [] h12
 else
 lp d 127 n 50 [some (iR (some l0)), some (iI l1), some (iR l2), some (iI l3), some (iI (ior l4 (ishl 1 l5))), some (iI (wr (l5 + 1)))] [] h12)
 else
 some (oI l4, h))) := rfl
-- TownSundays.heard(II)I
theorem r_T_heard (d : Nat) (l0 : Nat) (l1 : Int) (l2 : Int) (h : IH) : rn (d + 1) 128 [iR (some l0), iI l1, iI l2] h = lp d 128 (999999 + 1) 0 [some (iR (some l0)), some (iI l1), some (iI l2)] [] h := rn_lp rfl rfl
set_option maxRecDepth 20000 in
set_option maxHeartbeats 4000000 in
theorem e_T_heard (d n : Nat) (l0 : Nat) (l1 : Int) (l2 : Int) (h : IH) :
 lp d 128 (n + 1) 0 [some (iR (some l0)), some (iI l1), some (iI l2)] [] h =
 ((if l2 < 0 then
 xck h l0 21 <|
 kI (rn d 142 [iR (some l0), iI (-1)] h) fun x2 h1 =>
 some (oI x2, h1)
 else
 (if l2 ≤ 99 then
 xgR h l0 21 0 fun x3 =>
 xB x3 fun a4 =>
 xck h a4 11 <|
 kI (rn d 10 [iR (some a4), iI l1] h) fun x6 h5 =>
 (if x6 = 0 then
 xck h5 l0 21 <|
 kI (rn d 142 [iR (some l0), iI (-2)] h5) fun x8 h7 =>
 some (oI x8, h7)
 else
 xgR h5 l0 21 0 fun x9 =>
 xB x9 fun a11 =>
 xgI h5 a11 11 11 fun x10 =>
 (if x10 < 6 then
 xgR h5 l0 21 0 fun x12 =>
 xB x12 fun a14 =>
 xgR h5 a14 11 9 fun x13 =>
 xgR h5 l0 21 0 fun x15 =>
 xB x15 fun a17 =>
 xgI h5 a17 11 11 fun x16 =>
 xB x13 fun a19 =>
 xsI h5 a19 x16 l1 fun h18 =>
 xgR h18 l0 21 0 fun x20 =>
 xB x20 fun a22 =>
 xgR h18 a22 11 10 fun x21 =>
 xgR h18 l0 21 0 fun x23 =>
 xB x23 fun a25 =>
 xgI h18 a25 11 11 fun x24 =>
 xB x21 fun a27 =>
 xsI h18 a27 x24 l2 fun h26 =>
 xgR h26 l0 21 0 fun x28 =>
 xB x28 fun a30 =>
 xgI h26 a30 11 11 fun x29 =>
 xB x28 fun a32 =>
 xpI h26 a32 11 11 (wr (x29 + 1)) fun h31 =>
 xgR h31 l0 21 0 fun x33 =>
 xB x33 fun a35 =>
 xgI h31 a35 11 11 fun x34 =>
 xck h31 l0 21 <|
 kI (rn d 140 [iR (some l0), iI x34] h31) fun x37 h36 =>
 some (oI x37, h36)
 else
 xck h5 l0 21 <|
 kI (rn d 142 [iR (some l0), iI (-5)] h5) fun x39 h38 =>
 some (oI x39, h38)))
 else
 xck h l0 21 <|
 kI (rn d 142 [iR (some l0), iI (-1)] h) fun x41 h40 =>
 some (oI x41, h40)))) := rfl
-- TownSundays.forget()I
theorem r_T_forget (d : Nat) (l0 : Nat) (h : IH) : rn (d + 1) 129 [iR (some l0)] h = lp d 129 (999999 + 1) 0 [some (iR (some l0)), none] [] h := rn_lp rfl rfl
set_option maxRecDepth 20000 in
set_option maxHeartbeats 4000000 in
theorem e_T_forget (d n : Nat) (l0 : Nat) (h : IH) :
 lp d 129 (n + 1) 0 [some (iR (some l0)), none] [] h =
 (xgR h l0 21 0 fun x1 =>
 xB x1 fun a3 =>
 xgI h a3 11 11 fun x2 =>
 xgR h l0 21 0 fun x4 =>
 xB x4 fun a6 =>
 xpI h a6 11 11 0 fun h5 =>
 some (oI x2, h5)) := rfl
-- TownSundays.canBe()I
theorem r_T_canBe (d : Nat) (l0 : Nat) (h : IH) : rn (d + 1) 130 [iR (some l0)] h = lp d 130 (999999 + 1) 0 [some (iR (some l0))] [] h := rn_lp rfl rfl
set_option maxRecDepth 20000 in
set_option maxHeartbeats 4000000 in
theorem e_T_canBe (d n : Nat) (l0 : Nat) (h : IH) :
 lp d 130 (n + 1) 0 [some (iR (some l0))] [] h =
 (xgR h l0 21 11 fun x1 =>
 xgR h l0 21 0 fun x2 =>
 xgR h l0 21 6 fun x3 =>
 xB x1 fun a4 =>
 xck h a4 13 <|
 kV (rn d 28 [iR (some a4), iR x2, iR x3] h) fun h5 =>
 xgR h5 l0 21 11 fun x6 =>
 xgR h5 l0 21 0 fun x7 =>
 xB x6 fun a8 =>
 xck h5 a8 13 <|
 kI (rn d 43 [iR (some a8), iR x7] h5) fun x10 h9 =>
 some (oI x10, h9)) := rfl
-- TownSundays.ask(I)I
theorem r_T_ask (d : Nat) (l0 : Nat) (l1 : Int) (h : IH) : rn (d + 1) 131 [iR (some l0), iI l1] h = lp d 131 (999999 + 1) 0 [some (iR (some l0)), some (iI l1), none, none] [] h := rn_lp rfl rfl
set_option maxRecDepth 20000 in
set_option maxHeartbeats 4000000 in
theorem e_T_ask (d n : Nat) (l0 : Nat) (l1 : Int) (h : IH) :
 lp d 131 (n + 1) 0 [some (iR (some l0)), some (iI l1), none, none] [] h =
 ((if l1 = 0 then
 lp d 131 n 11 [some (iR (some l0)), some (iI l1), none, none] [] h
 else
 (if l1 = 1 then
 lp d 131 n 11 [some (iR (some l0)), some (iI l1), none, none] [] h
 else
 some (oI (-1), h)))) := rfl
set_option maxRecDepth 20000 in
set_option maxHeartbeats 4000000 in
theorem e_T_ask_11 (d n : Nat) (l0 : Nat) (l1 : Int) (h : IH) :
 lp d 131 (n + 1) 11 [some (iR (some l0)), some (iI l1), none, none] [] h =
 (xgR h l0 21 11 fun x1 =>
 xgR h l0 21 0 fun x2 =>
 xgR h l0 21 6 fun x3 =>
 xB x1 fun a4 =>
 xck h a4 13 <|
 kV (rn d 28 [iR (some a4), iR x2, iR x3] h) fun h5 =>
 xgR h5 l0 21 11 fun x6 =>
 xgR h5 l0 21 0 fun x7 =>
 xB x6 fun a8 =>
 xck h5 a8 13 <|
 kI (rn d 43 [iR (some a8), iR x7] h5) fun x10 h9 =>
 (if x10 = 0 then
 some (oI (-1), h9)
 else
 xgR h9 l0 21 11 fun x11 =>
 xgR h9 l0 21 0 fun x12 =>
 xB x12 fun a14 =>
 xgI h9 a14 11 0 fun x13 =>
 xB x11 fun a15 =>
 xck h9 a15 13 <|
 kI (rn d 44 [iR (some a15), iI x13, iI x10] h9) fun x17 h16 =>
 (if l1 = 0 then
 some (oI x17, h16)
 else
 xgR h16 l0 21 11 fun x18 =>
 xgR h16 l0 21 0 fun x19 =>
 xB x19 fun a21 =>
 xgI h16 a21 11 0 fun x20 =>
 xB x18 fun a22 =>
 xck h16 a22 13 <|
 kI (rn d 45 [iR (some a22), iI x20, iI x10, iI x17] h16) fun x24 h23 =>
 some (oI x24, h23)))) := rfl
-- TownSundays.few(II)J
theorem r_T_few (d : Nat) (l0 : Nat) (l1 : Int) (l2 : Int) (h : IH) : rn (d + 1) 132 [iR (some l0), iI l1, iI l2] h = lp d 132 (999999 + 1) 0 [some (iR (some l0)), some (iI l1), some (iI l2), none, none, none, none, none] [] h := rn_lp rfl rfl
set_option maxRecDepth 20000 in
set_option maxHeartbeats 4000000 in
theorem e_T_few (d n : Nat) (l0 : Nat) (l1 : Int) (l2 : Int) (h : IH) :
 lp d 132 (n + 1) 0 [some (iR (some l0)), some (iI l1), some (iI l2), none, none, none, none, none] [] h =
 ((if l1 < 1 then
 some (oJ (-1), h)
 else
 (if l1 ≤ 20 then
 (if l2 < 0 then
 some (oJ (-1), h)
 else
 (if l2 ≤ 99 then
 xgR h l0 21 0 fun x1 =>
 xB x1 fun a3 =>
 xgR h a3 11 8 fun x2 =>
 xB x2 fun a5 =>
 xaI h a5 1 fun x4 =>
 xgR h l0 21 13 fun x6 =>
 kV (rn d 304 [iR x6, iJ 0] h) fun h7 =>
 lp d 132 n 44 [some (iR (some l0)), some (iI l1), some (iI l2), some (iI x4), none, none, none, none] [iR (some l0)] h7
 else
 some (oJ (-1), h)))
 else
 some (oJ (-1), h)))) := rfl
set_option maxRecDepth 20000 in
set_option maxHeartbeats 4000000 in
theorem e_T_few_44 (d n : Nat) (l0 : Nat) (l1 : Int) (l2 : Int) (l3 : Int) (s0 : Nat) (h : IH) :
 lp d 132 (n + 1) 44 [some (iR (some l0)), some (iI l1), some (iI l2), some (iI l3), none, none, none, none] [iR (some s0)] h =
 (xgR h s0 21 13 fun x1 =>
 xB x1 fun a3 =>
 xsJ h a3 0 1000000000000 fun h2 =>
 lp d 132 n 55 [some (iR (some l0)), some (iI l1), some (iI l2), some (iI l3), some (iI 0), none, none, none] [] h2) := rfl
set_option maxRecDepth 20000 in
set_option maxHeartbeats 4000000 in
theorem e_T_few_55 (d n : Nat) (l0 : Nat) (l1 : Int) (l2 : Int) (l3 : Int) (l4 : Int) (h : IH) :
 lp d 132 (n + 1) 55 [some (iR (some l0)), some (iI l1), some (iI l2), some (iI l3), some (iI l4), none, none, none] [] h =
 ((if l4 < l2 then
 lp d 132 n 66 [some (iR (some l0)), some (iI l1), some (iI l2), some (iI l3), some (iI l4), some (iI (wr (l1 - 1))), none, none] [] h
 else
 lp d 132 n 143 [some (iR (some l0)), some (iI l1), none, none, some (iJ 0), none, some (iI 0), none] [] h)) := rfl
set_option maxRecDepth 20000 in
set_option maxHeartbeats 4000000 in
theorem e_T_few_66 (d n : Nat) (l0 : Nat) (l1 : Int) (l2 : Int) (l3 : Int) (l4 : Int) (l5 : Int) (h : IH) :
 lp d 132 (n + 1) 66 [some (iR (some l0)), some (iI l1), some (iI l2), some (iI l3), some (iI l4), some (iI l5), none, none] [] h =
 ((if l5 < 0 then
 lp d 132 n 55 [some (iR (some l0)), some (iI l1), some (iI l2), some (iI l3), some (iI (wr (l4 + 1))), none, none, none] [] h
 else
 (if l5 = 0 then
 xgR h l0 21 13 fun x1 =>
 xgR h l0 21 13 fun x2 =>
 xB x2 fun a4 =>
 xaJ h a4 l5 fun x3 =>
 xdJ (wl (x3 * (wr (10 - l3)))) 10 fun x5 =>
 xB x1 fun a7 =>
 xsJ h a7 l5 (wl (x5 + 0)) fun h6 =>
 lp d 132 n 125 [some (iR (some l0)), some (iI l1), some (iI l2), some (iI l3), some (iI l4), some (iI l5), none, none] [] h6
 else
 xgR h l0 21 13 fun x8 =>
 xB x8 fun a10 =>
 xaJ h a10 (wr (l5 - 1)) fun x9 =>
 xdJ (wl (x9 * l3)) 10 fun x11 =>
 xgR h l0 21 13 fun x12 =>
 xgR h l0 21 13 fun x13 =>
 xB x13 fun a15 =>
 xaJ h a15 l5 fun x14 =>
 xdJ (wl (x14 * (wr (10 - l3)))) 10 fun x16 =>
 xB x12 fun a18 =>
 xsJ h a18 l5 (wl (x16 + x11)) fun h17 =>
 lp d 132 n 125 [some (iR (some l0)), some (iI l1), some (iI l2), some (iI l3), some (iI l4), some (iI l5), none, none] [] h17))) := rfl
set_option maxRecDepth 20000 in
set_option maxHeartbeats 4000000 in
theorem e_T_few_125 (d n : Nat) (l0 : Nat) (l1 : Int) (l2 : Int) (l3 : Int) (l4 : Int) (l5 : Int) (h : IH) :
 lp d 132 (n + 1) 125 [some (iR (some l0)), some (iI l1), some (iI l2), some (iI l3), some (iI l4), some (iI l5), none, none] [] h =
 (lp d 132 n 66 [some (iR (some l0)), some (iI l1), some (iI l2), some (iI l3), some (iI l4), some (iI (wr (l5 + (-1)))), none, none] [] h) := rfl
set_option maxRecDepth 20000 in
set_option maxHeartbeats 4000000 in
theorem e_T_few_143 (d n : Nat) (l0 : Nat) (l1 : Int) (l4 : Int) (l6 : Int) (h : IH) :
 lp d 132 (n + 1) 143 [some (iR (some l0)), some (iI l1), none, none, some (iJ l4), none, some (iI l6), none] [] h =
 ((if l6 < l1 then
 xgR h l0 21 13 fun x1 =>
 xB x1 fun a3 =>
 xaJ h a3 l6 fun x2 =>
 lp d 132 n 143 [some (iR (some l0)), some (iI l1), none, none, some (iJ (wl (l4 + x2))), none, some (iI (wr (l6 + 1))), none] [] h
 else
 some (oJ l4, h))) := rfl
-- TownSundays.compare(III)I
theorem r_T_compare (d : Nat) (l0 : Nat) (l1 : Int) (l2 : Int) (l3 : Int) (h : IH) : rn (d + 1) 133 [iR (some l0), iI l1, iI l2, iI l3] h = lp d 133 (999999 + 1) 0 [some (iR (some l0)), some (iI l1), some (iI l2), some (iI l3)] [] h := rn_lp rfl rfl
set_option maxRecDepth 20000 in
set_option maxHeartbeats 4000000 in
theorem e_T_compare (d n : Nat) (l0 : Nat) (l1 : Int) (l2 : Int) (l3 : Int) (h : IH) :
 lp d 133 (n + 1) 0 [some (iR (some l0)), some (iI l1), some (iI l2), some (iI l3)] [] h =
 (xgR h l0 21 0 fun x1 =>
 xB x1 fun a2 =>
 xck h a2 11 <|
 kI (rn d 10 [iR (some a2), iI l2] h) fun x4 h3 =>
 (if x4 = 0 then
 some (oI (-1), h3)
 else
 xgR h3 l0 21 0 fun x5 =>
 xB x5 fun a6 =>
 xck h3 a6 11 <|
 kI (rn d 10 [iR (some a6), iI l3] h3) fun x8 h7 =>
 (if x8 = 0 then
 some (oI (-1), h7)
 else
 (if l1 = (-1) then
 xgR h7 l0 21 6 fun x9 =>
 xgR h7 l0 21 0 fun x10 =>
 xB x9 fun a11 =>
 xck h7 a11 10 <|
 kI (rn d 1 [iR (some a11), iR x10, iR none, iI l2, iI l3] h7) fun x13 h12 =>
 some (oI x13, h12)
 else
 xgR h7 l0 21 0 fun x14 =>
 xB x14 fun a15 =>
 xck h7 a15 11 <|
 kI (rn d 11 [iR (some a15), iI l1] h7) fun x17 h16 =>
 (if x17 = 0 then
 some (oI (-1), h16)
 else
 xgR h16 l0 21 6 fun x18 =>
 xgR h16 l0 21 0 fun x19 =>
 xgR h16 l0 21 0 fun x20 =>
 xB x20 fun a22 =>
 xgR h16 a22 11 12 fun x21 =>
 xB x21 fun a24 =>
 xaR h16 a24 l1 fun x23 =>
 xB x18 fun a25 =>
 xck h16 a25 10 <|
 kI (rn d 1 [iR (some a25), iR x19, iR x23, iI l2, iI l3] h16) fun x27 h26 =>
 some (oI x27, h26)))))) := rfl
-- TownSundays.centuries(II)I
theorem r_T_centuries (d : Nat) (l0 : Nat) (l1 : Int) (l2 : Int) (h : IH) : rn (d + 1) 134 [iR (some l0), iI l1, iI l2] h = lp d 134 (999999 + 1) 0 [some (iR (some l0)), some (iI l1), some (iI l2), none, none] [] h := rn_lp rfl rfl
set_option maxRecDepth 20000 in
set_option maxHeartbeats 4000000 in
theorem e_T_centuries (d n : Nat) (l0 : Nat) (l1 : Int) (l2 : Int) (h : IH) :
 lp d 134 (n + 1) 0 [some (iR (some l0)), some (iI l1), some (iI l2), none, none] [] h =
 ((if l1 < 0 then
 xck h l0 21 <|
 kI (rn d 142 [iR (some l0), iI (-1)] h) fun x2 h1 =>
 some (oI x2, h1)
 else
 (if l1 ≤ 1000000 then
 (if l2 < 1 then
 xck h l0 21 <|
 kI (rn d 142 [iR (some l0), iI (-1)] h) fun x4 h3 =>
 some (oI x4, h3)
 else
 (if l2 ≤ 60 then
 xgR h l0 21 0 fun x5 =>
 xB x5 fun a7 =>
 xgI h a7 11 0 fun x6 =>
 (if x6 = 0 then
 xck h l0 21 <|
 kI (rn d 142 [iR (some l0), iI (-3)] h) fun x9 h8 =>
 some (oI x9, h8)
 else
 xgR h l0 21 2 fun x10 =>
 xgR h l0 21 0 fun x11 =>
 xB x10 fun a12 =>
 xck h a12 11 <|
 kV (rn d 9 [iR (some a12), iR x11] h) fun h13 =>
 lp d 134 n 61 [some (iR (some l0)), none, some (iI l2), some (iI l1), some (iI 0)] [] h13)
 else
 xck h l0 21 <|
 kI (rn d 142 [iR (some l0), iI (-1)] h) fun x15 h14 =>
 some (oI x15, h14)))
 else
 xck h l0 21 <|
 kI (rn d 142 [iR (some l0), iI (-1)] h) fun x17 h16 =>
 some (oI x17, h16)))) := rfl
set_option maxRecDepth 20000 in
set_option maxHeartbeats 4000000 in
theorem e_T_centuries_61 (d n : Nat) (l0 : Nat) (l2 : Int) (l3 : Int) (l4 : Int) (h : IH) :
 lp d 134 (n + 1) 61 [some (iR (some l0)), none, some (iI l2), some (iI l3), some (iI l4)] [] h =
 ((if l4 < l2 then
 xgR h l0 21 2 fun x1 =>
 xB x1 fun a3 =>
 xgR h a3 11 8 fun x2 =>
 xB x2 fun a5 =>
 xaI h a5 0 fun x4 =>
 xaI h 1 0 fun x6 =>
 (if x4 < x6 then
 xgR h l0 21 7 fun x7 =>
 xgR h l0 21 2 fun x8 =>
 xB x7 fun a9 =>
 xck h a9 12 <|
 kI (rn d 25 [iR (some a9), iR x8, iI l3] h) fun x11 h10 =>
 lp d 134 n 61 [some (iR (some l0)), none, some (iI l2), some (iI x11), some (iI (wr (l4 + 1)))] [] h10
 else
 xgR h l0 21 2 fun x12 =>
 xB x12 fun a13 =>
 xck h a13 11 <|
 kI (rn d 18 [iR (some a13)] h) fun x15 h14 =>
 xck h14 l0 21 <|
 kI (rn d 140 [iR (some l0), iI x15] h14) fun x17 h16 =>
 some (oI x17, h16))
 else
 xgR h l0 21 2 fun x18 =>
 xB x18 fun a19 =>
 xck h a19 11 <|
 kI (rn d 18 [iR (some a19)] h) fun x21 h20 =>
 xck h20 l0 21 <|
 kI (rn d 140 [iR (some l0), iI x21] h20) fun x23 h22 =>
 some (oI x23, h22))) := rfl
-- TownSundays.drawn(II)I
theorem r_T_drawn (d : Nat) (l0 : Nat) (l1 : Int) (l2 : Int) (h : IH) : rn (d + 1) 135 [iR (some l0), iI l1, iI l2] h = lp d 135 (999999 + 1) 0 [some (iR (some l0)), some (iI l1), some (iI l2)] [] h := rn_lp rfl rfl
set_option maxRecDepth 20000 in
set_option maxHeartbeats 4000000 in
theorem e_T_drawn (d n : Nat) (l0 : Nat) (l1 : Int) (l2 : Int) (h : IH) :
 lp d 135 (n + 1) 0 [some (iR (some l0)), some (iI l1), some (iI l2)] [] h =
 (xgR h l0 21 2 fun x1 =>
 xB x1 fun a2 =>
 xck h a2 11 <|
 kI (rn d 10 [iR (some a2), iI l1] h) fun x4 h3 =>
 (if x4 = 0 then
 some (oI (-1), h3)
 else
 (if l2 = 0 then
 xgR h3 l0 21 2 fun x5 =>
 xB x5 fun a7 =>
 xgR h3 a7 11 1 fun x6 =>
 xB x6 fun a9 =>
 xaI h3 a9 l1 fun x8 =>
 some (oI x8, h3)
 else
 (if l2 = 1 then
 xgR h3 l0 21 2 fun x10 =>
 xB x10 fun a12 =>
 xgR h3 a12 11 3 fun x11 =>
 xB x11 fun a14 =>
 xaI h3 a14 l1 fun x13 =>
 some (oI x13, h3)
 else
 some (oI (-1), h3))))) := rfl
-- TownSundays.image(I)I
theorem r_T_image (d : Nat) (l0 : Nat) (l1 : Int) (h : IH) : rn (d + 1) 136 [iR (some l0), iI l1] h = lp d 136 (999999 + 1) 0 [some (iR (some l0)), some (iI l1)] [] h := rn_lp rfl rfl
set_option maxRecDepth 20000 in
set_option maxHeartbeats 4000000 in
theorem e_T_image (d n : Nat) (l0 : Nat) (l1 : Int) (h : IH) :
 lp d 136 (n + 1) 0 [some (iR (some l0)), some (iI l1)] [] h =
 ((if l1 < 0 then
 xck h l0 21 <|
 kI (rn d 142 [iR (some l0), iI (-1)] h) fun x2 h1 =>
 some (oI x2, h1)
 else
 (if l1 < 2 then
 xgR h l0 21 3 fun x3 =>
 xB x3 fun a5 =>
 xaR h a5 l1 fun x4 =>
 (match x4 with
 | none => xgR h l0 21 3 fun x6 =>
 xnO h 1 fun a7 h8 =>
 kV (rn d 8 [iR (some a7)] h8) fun h9 =>
 xB x6 fun a11 =>
 xsR h9 a11 l1 (some a7) fun h10 =>
 xgR h10 l0 21 3 fun x12 =>
 xB x12 fun a14 =>
 xaR h10 a14 l1 fun x13 =>
 xgR h10 l0 21 0 fun x15 =>
 xB x13 fun a16 =>
 xck h10 a16 11 <|
 kV (rn d 9 [iR (some a16), iR x15] h10) fun h17 =>
 xck h17 l0 21 <|
 kI (rn d 140 [iR (some l0), iI 0] h17) fun x19 h18 =>
 some (oI x19, h18)
 | some _ => xgR h l0 21 3 fun x20 =>
 xB x20 fun a22 =>
 xaR h a22 l1 fun x21 =>
 xgR h l0 21 0 fun x23 =>
 xB x21 fun a24 =>
 xck h a24 11 <|
 kV (rn d 9 [iR (some a24), iR x23] h) fun h25 =>
 xck h25 l0 21 <|
 kI (rn d 140 [iR (some l0), iI 0] h25) fun x27 h26 =>
 some (oI x27, h26))
 else
 xck h l0 21 <|
 kI (rn d 142 [iR (some l0), iI (-1)] h) fun x29 h28 =>
 some (oI x29, h28)))) := rfl
-- TownSundays.back(I)I
theorem r_T_back (d : Nat) (l0 : Nat) (l1 : Int) (h : IH) : rn (d + 1) 137 [iR (some l0), iI l1] h = lp d 137 (999999 + 1) 0 [some (iR (some l0)), some (iI l1)] [] h := rn_lp rfl rfl
set_option maxRecDepth 20000 in
set_option maxHeartbeats 4000000 in
theorem e_T_back (d n : Nat) (l0 : Nat) (l1 : Int) (h : IH) :
 lp d 137 (n + 1) 0 [some (iR (some l0)), some (iI l1)] [] h =
 ((if l1 < 0 then
 xck h l0 21 <|
 kI (rn d 142 [iR (some l0), iI (-1)] h) fun x2 h1 =>
 some (oI x2, h1)
 else
 (if l1 < 2 then
 xgR h l0 21 3 fun x3 =>
 xB x3 fun a5 =>
 xaR h a5 l1 fun x4 =>
 (match x4 with
 | none => xck h l0 21 <|
 kI (rn d 142 [iR (some l0), iI (-2)] h) fun x7 h6 =>
 some (oI x7, h6)
 | some _ => xgR h l0 21 0 fun x8 =>
 xgR h l0 21 3 fun x9 =>
 xB x9 fun a11 =>
 xaR h a11 l1 fun x10 =>
 xB x8 fun a12 =>
 xck h a12 11 <|
 kV (rn d 9 [iR (some a12), iR x10] h) fun h13 =>
 xgR h13 l0 21 9 fun x14 =>
 xB x14 fun a15 =>
 xck h13 a15 14 <|
 kV (rn d 47 [iR (some a15)] h13) fun h16 =>
 xck h16 l0 21 <|
 kI (rn d 140 [iR (some l0), iI 0] h16) fun x18 h17 =>
 some (oI x18, h17))
 else
 xck h l0 21 <|
 kI (rn d 142 [iR (some l0), iI (-1)] h) fun x20 h19 =>
 some (oI x20, h19)))) := rfl
-- TownSundays.count(I)I
theorem r_T_count (d : Nat) (l0 : Nat) (l1 : Int) (h : IH) : rn (d + 1) 138 [iR (some l0), iI l1] h = lp d 138 (999999 + 1) 0 [some (iR (some l0)), some (iI l1)] [] h := rn_lp rfl rfl
set_option maxRecDepth 20000 in
set_option maxHeartbeats 4000000 in
theorem e_T_count (d n : Nat) (l0 : Nat) (l1 : Int) (h : IH) :
 lp d 138 (n + 1) 0 [some (iR (some l0)), some (iI l1)] [] h =
 ((if l1 < 8 then
 (if l1 < 14 then
 lp d 138 n 47 [some (iR (some l0)), some (iI l1)] [] h
 else
 (if l1 ≤ 16 then
 xgR h l0 21 0 fun x1 =>
 xB x1 fun a3 =>
 xgR h a3 11 8 fun x2 =>
 xB x2 fun a5 =>
 xaI h a5 (wr (l1 - 14)) fun x4 =>
 some (oI x4, h)
 else
 lp d 138 n 47 [some (iR (some l0)), some (iI l1)] [] h))
 else
 (if l1 ≤ 12 then
 xgR h l0 21 14 fun x6 =>
 xB x6 fun a8 =>
 xaI h a8 (wr (l1 - 8)) fun x7 =>
 some (oI x7, h)
 else
 (if l1 < 14 then
 lp d 138 n 47 [some (iR (some l0)), some (iI l1)] [] h
 else
 (if l1 ≤ 16 then
 xgR h l0 21 0 fun x9 =>
 xB x9 fun a11 =>
 xgR h a11 11 8 fun x10 =>
 xB x10 fun a13 =>
 xaI h a13 (wr (l1 - 14)) fun x12 =>
 some (oI x12, h)
 else
 lp d 138 n 47 [some (iR (some l0)), some (iI l1)] [] h))))) := rfl
set_option maxRecDepth 20000 in
set_option maxHeartbeats 4000000 in
theorem e_T_count_47 (d n : Nat) (l0 : Nat) (l1 : Int) (h : IH) :
 lp d 138 (n + 1) 47 [some (iR (some l0)), some (iI l1)] [] h =
 ((if l1 = 0 then
 xgR h l0 21 0 fun x28 =>
 xB x28 fun a30 =>
 xgI h a30 11 0 fun x29 =>
 some (oI x29, h)
 else
 (if l1 = 1 then
 xgR h l0 21 0 fun x24 =>
 xB x24 fun a25 =>
 xck h a25 11 <|
 kI (rn d 18 [iR (some a25)] h) fun x27 h26 =>
 some (oI x27, h26)
 else
 (if l1 = 2 then
 xgR h l0 21 0 fun x20 =>
 xB x20 fun a21 =>
 xck h a21 11 <|
 kI (rn d 19 [iR (some a21), iI 0] h) fun x23 h22 =>
 some (oI x23, h22)
 else
 (if l1 = 3 then
 xgR h l0 21 0 fun x16 =>
 xB x16 fun a17 =>
 xck h a17 11 <|
 kI (rn d 19 [iR (some a17), iI 1] h) fun x19 h18 =>
 some (oI x19, h18)
 else
 (if l1 = 4 then
 xgR h l0 21 0 fun x13 =>
 xB x13 fun a15 =>
 xgI h a15 11 11 fun x14 =>
 some (oI x14, h)
 else
 (if l1 = 5 then
 xgR h l0 21 0 fun x10 =>
 xB x10 fun a12 =>
 xgI h a12 11 13 fun x11 =>
 some (oI x11, h)
 else
 (if l1 = 6 then
 xgR h l0 21 9 fun x7 =>
 xB x7 fun a9 =>
 xgI h a9 14 0 fun x8 =>
 some (oI x8, h)
 else
 (if l1 = 7 then
 xgR h l0 21 4 fun x4 =>
 xB x4 fun a6 =>
 xgI h a6 18 1 fun x5 =>
 some (oI x5, h)
 else
 (if l1 = 8 then
 some (oI (-1), h)
 else
 (if l1 = 9 then
 some (oI (-1), h)
 else
 (if l1 = 10 then
 some (oI (-1), h)
 else
 (if l1 = 11 then
 some (oI (-1), h)
 else
 (if l1 = 12 then
 some (oI (-1), h)
 else
 (if l1 = 13 then
 xgR h l0 21 0 fun x1 =>
 xB x1 fun a3 =>
 xgI h a3 11 14 fun x2 =>
 some (oI x2, h)
 else
 some (oI (-1), h)))))))))))))))) := rfl
-- TownSundays.status()I
theorem r_T_status (d : Nat) (l0 : Nat) (h : IH) : rn (d + 1) 139 [iR (some l0)] h = lp d 139 (999999 + 1) 0 [some (iR (some l0))] [] h := rn_lp rfl rfl
set_option maxRecDepth 20000 in
set_option maxHeartbeats 4000000 in
theorem e_T_status (d n : Nat) (l0 : Nat) (h : IH) :
 lp d 139 (n + 1) 0 [some (iR (some l0))] [] h =
 (xgI h l0 21 15 fun x1 =>
 some (oI x1, h)) := rfl
-- TownSundays.taken(I)I
theorem r_T_taken (d : Nat) (l0 : Nat) (l1 : Int) (h : IH) : rn (d + 1) 140 [iR (some l0), iI l1] h = lp d 140 (999999 + 1) 0 [some (iR (some l0)), some (iI l1)] [] h := rn_lp rfl rfl
set_option maxRecDepth 20000 in
set_option maxHeartbeats 4000000 in
theorem e_T_taken (d n : Nat) (l0 : Nat) (l1 : Int) (h : IH) :
 lp d 140 (n + 1) 0 [some (iR (some l0)), some (iI l1)] [] h =
 (xpI h l0 21 15 0 fun h1 =>
 some (oI l1, h1)) := rfl
-- TownSundays.moved(I)I
theorem r_T_moved (d : Nat) (l0 : Nat) (l1 : Int) (h : IH) : rn (d + 1) 141 [iR (some l0), iI l1] h = lp d 141 (999999 + 1) 0 [some (iR (some l0)), some (iI l1)] [] h := rn_lp rfl rfl
set_option maxRecDepth 20000 in
set_option maxHeartbeats 4000000 in
theorem e_T_moved (d n : Nat) (l0 : Nat) (l1 : Int) (h : IH) :
 lp d 141 (n + 1) 0 [some (iR (some l0)), some (iI l1)] [] h =
 (xgR h l0 21 9 fun x1 =>
 xB x1 fun a2 =>
 xck h a2 14 <|
 kV (rn d 50 [iR (some a2)] h) fun h3 =>
 xck h3 l0 21 <|
 kI (rn d 140 [iR (some l0), iI l1] h3) fun x5 h4 =>
 some (oI x5, h4)) := rfl
-- TownSundays.refused(I)I
theorem r_T_refused (d : Nat) (l0 : Nat) (l1 : Int) (h : IH) : rn (d + 1) 142 [iR (some l0), iI l1] h = lp d 142 (999999 + 1) 0 [some (iR (some l0)), some (iI l1), none] [] h := rn_lp rfl rfl
set_option maxRecDepth 20000 in
set_option maxHeartbeats 4000000 in
theorem e_T_refused (d n : Nat) (l0 : Nat) (l1 : Int) (h : IH) :
 lp d 142 (n + 1) 0 [some (iR (some l0)), some (iI l1), none] [] h =
 (xpI h l0 21 15 l1 fun h1 =>
 (if l1 < (-3) then
 (if (wr ((-2) - l1)) < 0 then
 some (oI l1, h1)
 else
 xgR h1 l0 21 14 fun x2 =>
 xB x2 fun a4 =>
 xle h1 a4 fun x3 =>
 (if (wr ((-2) - l1)) < x3 then
 xgR h1 l0 21 14 fun x5 =>
 xB x5 fun a7 =>
 xaI h1 a7 (wr ((-2) - l1)) fun x6 =>
 xB x5 fun a9 =>
 xsI h1 a9 (wr ((-2) - l1)) (wr (x6 + 1)) fun h8 =>
 some (oI l1, h8)
 else
 some (oI l1, h1)))
 else
 (if (wr ((-1) - l1)) < 0 then
 some (oI l1, h1)
 else
 xgR h1 l0 21 14 fun x10 =>
 xB x10 fun a12 =>
 xle h1 a12 fun x11 =>
 (if (wr ((-1) - l1)) < x11 then
 xgR h1 l0 21 14 fun x13 =>
 xB x13 fun a15 =>
 xaI h1 a15 (wr ((-1) - l1)) fun x14 =>
 xB x13 fun a17 =>
 xsI h1 a17 (wr ((-1) - l1)) (wr (x14 + 1)) fun h16 =>
 some (oI l1, h16)
 else
 some (oI l1, h1))))) := rfl
-- TownSundays.isRoadTold(I)Z
theorem r_T_isRoadTold (d : Nat) (l0 : Nat) (l1 : Int) (h : IH) : rn (d + 1) 143 [iR (some l0), iI l1] h = lp d 143 (999999 + 1) 0 [some (iR (some l0)), some (iI l1)] [] h := rn_lp rfl rfl
set_option maxRecDepth 20000 in
set_option maxHeartbeats 4000000 in
theorem e_T_isRoadTold (d n : Nat) (l0 : Nat) (l1 : Int) (h : IH) :
 lp d 143 (n + 1) 0 [some (iR (some l0)), some (iI l1)] [] h =
 (xgR h l0 21 4 fun x1 =>
 xB x1 fun a3 =>
 xgI h a3 18 1 fun x2 =>
 (if (wr (l1 + 2)) < x2 then
 xgR h l0 21 4 fun x4 =>
 xB x4 fun a6 =>
 xgR h a6 18 0 fun x5 =>
 xB x5 fun a8 =>
 xaI h a8 l1 fun x7 =>
 xgR h l0 21 4 fun x9 =>
 xB x9 fun a11 =>
 xgR h a11 18 0 fun x10 =>
 xB x10 fun a13 =>
 xaI h a13 (wr (l1 + 1)) fun x12 =>
 (if x7 = x12 then
 xZ 0 h
 else
 xgR h l0 21 0 fun x14 =>
 xgR h l0 21 4 fun x15 =>
 xB x15 fun a17 =>
 xgR h a17 18 0 fun x16 =>
 xB x16 fun a19 =>
 xaI h a19 l1 fun x18 =>
 xB x14 fun a20 =>
 xck h a20 11 <|
 kI (rn d 10 [iR (some a20), iI x18] h) fun x22 h21 =>
 (if x22 = 0 then
 xZ 0 h21
 else
 xgR h21 l0 21 0 fun x23 =>
 xgR h21 l0 21 4 fun x24 =>
 xB x24 fun a26 =>
 xgR h21 a26 18 0 fun x25 =>
 xB x25 fun a28 =>
 xaI h21 a28 (wr (l1 + 1)) fun x27 =>
 xB x23 fun a29 =>
 xck h21 a29 11 <|
 kI (rn d 10 [iR (some a29), iI x27] h21) fun x31 h30 =>
 (if x31 = 0 then
 xZ 0 h30
 else
 xgR h30 l0 21 4 fun x32 =>
 xB x32 fun a34 =>
 xgR h30 a34 18 0 fun x33 =>
 xB x33 fun a36 =>
 xaI h30 a36 (wr (l1 + 2)) fun x35 =>
 (if x35 ≤ 99 then
 xZ 1 h30
 else
 xZ 0 h30))))
 else
 xZ 0 h)) := rfl
-- TownSundays.ringLength(I)I
theorem r_T_ringLength (d : Nat) (l0 : Nat) (l1 : Int) (h : IH) : rn (d + 1) 144 [iR (some l0), iI l1] h = lp d 144 (999999 + 1) 0 [some (iR (some l0)), some (iI l1), none, none] [] h := rn_lp rfl rfl
set_option maxRecDepth 20000 in
set_option maxHeartbeats 4000000 in
theorem e_T_ringLength (d n : Nat) (l0 : Nat) (l1 : Int) (h : IH) :
 lp d 144 (n + 1) 0 [some (iR (some l0)), some (iI l1), none, none] [] h =
 (xgR h l0 21 0 fun x1 =>
 xB x1 fun a3 =>
 xgR h a3 11 2 fun x2 =>
 xB x2 fun a5 =>
 xaI h a5 l1 fun x4 =>
 lp d 144 n 12 [some (iR (some l0)), some (iI l1), some (iI 1), some (iI x4)] [] h) := rfl
set_option maxRecDepth 20000 in
set_option maxHeartbeats 4000000 in
theorem e_T_ringLength_12 (d n : Nat) (l0 : Nat) (l1 : Int) (l2 : Int) (l3 : Int) (h : IH) :
 lp d 144 (n + 1) 12 [some (iR (some l0)), some (iI l1), some (iI l2), some (iI l3)] [] h =
 ((if l3 = l1 then
 some (oI l2, h)
 else
 (if l2 < 7 then
 xgR h l0 21 0 fun x1 =>
 xB x1 fun a3 =>
 xgR h a3 11 2 fun x2 =>
 xB x2 fun a5 =>
 xaI h a5 l3 fun x4 =>
 lp d 144 n 12 [some (iR (some l0)), some (iI l1), some (iI (wr (l2 + 1))), some (iI x4)] [] h
 else
 some (oI l2, h)))) := rfl
-- TownSundays.ringCount()I
theorem r_T_ringCount (d : Nat) (l0 : Nat) (h : IH) : rn (d + 1) 145 [iR (some l0)] h = lp d 145 (999999 + 1) 0 [some (iR (some l0)), none, none, none, none, none] [] h := rn_lp rfl rfl
set_option maxRecDepth 20000 in
set_option maxHeartbeats 4000000 in
theorem e_T_ringCount (d n : Nat) (l0 : Nat) (h : IH) :
 lp d 145 (n + 1) 0 [some (iR (some l0)), none, none, none, none, none] [] h =
 (lp d 145 n 6 [some (iR (some l0)), some (iI 0), some (iI 0), some (iI 0), none, none] [] h) := rfl
set_option maxRecDepth 20000 in
set_option maxHeartbeats 4000000 in
theorem e_T_ringCount_6 (d n : Nat) (l0 : Nat) (l1 : Int) (l2 : Int) (l3 : Int) (h : IH) :
 lp d 145 (n + 1) 6 [some (iR (some l0)), some (iI l1), some (iI l2), some (iI l3), none, none] [] h =
 (xgR h l0 21 0 fun x1 =>
 xB x1 fun a3 =>
 xgI h a3 11 0 fun x2 =>
 (if l3 < x2 then
 (if (iand (ishr l1 l3) 1) = 0 then
 lp d 145 n 34 [some (iR (some l0)), some (iI l1), some (iI (wr (l2 + 1))), some (iI l3), some (iI l3), some (iI 0)] [] h
 else
 lp d 145 n 34 [some (iR (some l0)), some (iI l1), some (iI l2), some (iI l3), some (iI l3), some (iI 0)] [] h)
 else
 some (oI l2, h))) := rfl
set_option maxRecDepth 20000 in
set_option maxHeartbeats 4000000 in
theorem e_T_ringCount_34 (d n : Nat) (l0 : Nat) (l1 : Int) (l2 : Int) (l3 : Int) (l4 : Int) (l5 : Int) (h : IH) :
 lp d 145 (n + 1) 34 [some (iR (some l0)), some (iI l1), some (iI l2), some (iI l3), some (iI l4), some (iI l5)] [] h =
 (xgR h l0 21 0 fun x1 =>
 xB x1 fun a3 =>
 xgI h a3 11 0 fun x2 =>
 (if l5 < x2 then
 xgR h l0 21 0 fun x4 =>
 xB x4 fun a6 =>
 xgR h a6 11 2 fun x5 =>
 xB x5 fun a8 =>
 xaI h a8 l4 fun x7 =>
 lp d 145 n 34 [some (iR (some l0)), some (iI (ior l1 (ishl 1 l4))), some (iI l2), some (iI l3), some (iI x7), some (iI (wr (l5 + 1)))] [] h
 else
 lp d 145 n 6 [some (iR (some l0)), some (iI l1), some (iI l2), some (iI (wr (l3 + 1))), none, none] [] h)) := rfl
-- TownSundays.commonMultiple(II)I
theorem r_T_commonMultiple (d : Nat) (l0 : Int) (l1 : Int) (h : IH) : rn (d + 1) 146 [iI l0, iI l1] h = lp d 146 (999999 + 1) 0 [some (iI l0), some (iI l1), none, none] [] h := rn_lp rfl rfl
set_option maxRecDepth 20000 in
set_option maxHeartbeats 4000000 in
theorem e_T_commonMultiple (d n : Nat) (l0 : Int) (l1 : Int) (h : IH) :
 lp d 146 (n + 1) 0 [some (iI l0), some (iI l1), none, none] [] h =
 (lp d 146 n 4 [some (iI l0), some (iI l1), some (iI l0), some (iI 1)] [] h) := rfl
set_option maxRecDepth 20000 in
set_option maxHeartbeats 4000000 in
theorem e_T_commonMultiple_4 (d n : Nat) (l0 : Int) (l1 : Int) (l2 : Int) (l3 : Int) (h : IH) :
 lp d 146 (n + 1) 4 [some (iI l0), some (iI l1), some (iI l2), some (iI l3)] [] h =
 ((if l3 < l1 then
 xmI l2 l1 fun x1 =>
 (if x1 = 0 then
 some (oI l2, h)
 else
 lp d 146 n 4 [some (iI l0), some (iI l1), some (iI (wr (l2 + l0))), some (iI (wr (l3 + 1)))] [] h)
 else
 some (oI l2, h))) := rfl
-- TownSundaysModel.lies(III)Z
theorem r_M_lies (d : Nat) (l0 : Int) (l1 : Int) (l2 : Int) (h : IH) : rn (d + 1) 147 [iI l0, iI l1, iI l2] h = lp d 147 (999999 + 1) 0 [some (iI l0), some (iI l1), some (iI l2)] [] h := rn_lp rfl rfl
set_option maxRecDepth 20000 in
set_option maxHeartbeats 4000000 in
theorem e_M_lies (d n : Nat) (l0 : Int) (l1 : Int) (l2 : Int) (h : IH) :
 lp d 147 (n + 1) 0 [some (iI l0), some (iI l1), some (iI l2)] [] h =
 ((if l0 < l1 then
 xZ 0 h
 else
 (if l0 ≤ l2 then
 xZ 1 h
 else
 xZ 0 h))) := rfl
-- TownSundaysModel.lesser(II)I
theorem r_M_lesser (d : Nat) (l0 : Int) (l1 : Int) (h : IH) : rn (d + 1) 148 [iI l0, iI l1] h = lp d 148 (999999 + 1) 0 [some (iI l0), some (iI l1)] [] h := rn_lp rfl rfl
set_option maxRecDepth 20000 in
set_option maxHeartbeats 4000000 in
theorem e_M_lesser (d n : Nat) (l0 : Int) (l1 : Int) (h : IH) :
 lp d 148 (n + 1) 0 [some (iI l0), some (iI l1)] [] h =
 ((if l0 < l1 then
 some (oI l0, h)
 else
 some (oI l1, h))) := rfl
-- TownSundaysModel.greater(II)I
theorem r_M_greater (d : Nat) (l0 : Int) (l1 : Int) (h : IH) : rn (d + 1) 149 [iI l0, iI l1] h = lp d 149 (999999 + 1) 0 [some (iI l0), some (iI l1)] [] h := rn_lp rfl rfl
set_option maxRecDepth 20000 in
set_option maxHeartbeats 4000000 in
theorem e_M_greater (d n : Nat) (l0 : Int) (l1 : Int) (h : IH) :
 lp d 149 (n + 1) 0 [some (iI l0), some (iI l1)] [] h =
 ((if l0 ≤ l1 then
 some (oI l1, h)
 else
 some (oI l0, h))) := rfl
-- TownSundaysModel.refuses(I)I
theorem r_M_refuses (d : Nat) (l0 : Nat) (l1 : Int) (h : IH) : rn (d + 1) 150 [iR (some l0), iI l1] h = lp d 150 (999999 + 1) 0 [some (iR (some l0)), some (iI l1)] [] h := rn_lp rfl rfl
set_option maxRecDepth 20000 in
set_option maxHeartbeats 4000000 in
theorem e_M_refuses (d n : Nat) (l0 : Nat) (l1 : Int) (h : IH) :
 lp d 150 (n + 1) 0 [some (iR (some l0)), some (iI l1)] [] h =
 (xpI h l0 22 0 l1 fun h1 =>
 xgR h1 l0 22 1 fun x2 =>
 xB x2 fun a4 =>
 xaI h1 a4 (wr (-l1)) fun x3 =>
 xB x2 fun a6 =>
 xsI h1 a6 (wr (-l1)) (wr (x3 + 1)) fun h5 =>
 some (oI l1, h5)) := rfl
-- TownSundaysModel.good(I)I
theorem r_M_good (d : Nat) (l0 : Nat) (l1 : Int) (h : IH) : rn (d + 1) 151 [iR (some l0), iI l1] h = lp d 151 (999999 + 1) 0 [some (iR (some l0)), some (iI l1)] [] h := rn_lp rfl rfl
set_option maxRecDepth 20000 in
set_option maxHeartbeats 4000000 in
theorem e_M_good (d n : Nat) (l0 : Nat) (l1 : Int) (h : IH) :
 lp d 151 (n + 1) 0 [some (iR (some l0)), some (iI l1)] [] h =
 (xpI h l0 22 0 0 fun h1 =>
 some (oI l1, h1)) := rfl
-- TownSundaysModel.settled(I)I
theorem r_M_settled (d : Nat) (l0 : Nat) (l1 : Int) (h : IH) : rn (d + 1) 152 [iR (some l0), iI l1] h = lp d 152 (999999 + 1) 0 [some (iR (some l0)), some (iI l1)] [] h := rn_lp rfl rfl
set_option maxRecDepth 20000 in
set_option maxHeartbeats 4000000 in
theorem e_M_settled (d n : Nat) (l0 : Nat) (l1 : Int) (h : IH) :
 lp d 152 (n + 1) 0 [some (iR (some l0)), some (iI l1)] [] h =
 (xpI h l0 22 31 0 fun h1 =>
 xck h1 l0 22 <|
 kI (rn d 151 [iR (some l0), iI l1] h1) fun x3 h2 =>
 some (oI x3, h2)) := rfl
-- TownSundaysModel.isIn(II)Z
theorem r_M_isIn (d : Nat) (l0 : Int) (l1 : Int) (h : IH) : rn (d + 1) 153 [iI l0, iI l1] h = lp d 153 (999999 + 1) 0 [some (iI l0), some (iI l1)] [] h := rn_lp rfl rfl
set_option maxRecDepth 20000 in
set_option maxHeartbeats 4000000 in
theorem e_M_isIn (d n : Nat) (l0 : Int) (l1 : Int) (h : IH) :
 lp d 153 (n + 1) 0 [some (iI l0), some (iI l1)] [] h =
 ((if (iand (ishr l0 l1) 1) = 1 then
 xZ 1 h
 else
 xZ 0 h)) := rfl
-- TownSundaysModel.pairAt(II)I
theorem r_M_pairAt (d : Nat) (l0 : Int) (l1 : Int) (h : IH) : rn (d + 1) 154 [iI l0, iI l1] h = lp d 154 (999999 + 1) 0 [some (iI l0), some (iI l1)] [] h := rn_lp rfl rfl
set_option maxRecDepth 20000 in
set_option maxHeartbeats 4000000 in
theorem e_M_pairAt (d n : Nat) (l0 : Int) (l1 : Int) (h : IH) :
 lp d 154 (n + 1) 0 [some (iI l0), some (iI l1)] [] h =
 (some (oI (wr ((wr (7 * l0)) + l1)), h)) := rfl
