/-! Equations of methods 156 to 179 (by program, wip/whole/gen17.py) -/
-- TownSundaysModel.laysAside(I)V
theorem r_M_laysAside (d : Nat) (l0 : Nat) (l1 : Int) (h : IH) : rn (d + 1) 156 [iR (some l0), iI l1] h = lp d 156 (999999 + 1) 0 [some (iR (some l0)), some (iI l1), none] [] h := rn_lp rfl rfl
set_option maxRecDepth 20000 in
set_option maxHeartbeats 4000000 in
theorem e_M_laysAside (d n : Nat) (l0 : Nat) (l1 : Int) (h : IH) :
 lp d 156 (n + 1) 0 [some (iR (some l0)), some (iI l1), none] [] h =
 (lp d 156 n 2 [some (iR (some l0)), some (iI l1), some (iI 0)] [] h) := rfl
set_option maxRecDepth 20000 in
set_option maxHeartbeats 4000000 in
theorem e_M_laysAside_2 (d n : Nat) (l0 : Nat) (l1 : Int) (l2 : Int) (h : IH) :
 lp d 156 (n + 1) 2 [some (iR (some l0)), some (iI l1), some (iI l2)] [] h =
 ((if l2 < 113 then
 xgR h l0 22 5 fun x1 =>
 xgR h l0 22 2 fun x2 =>
 xB x2 fun a4 =>
 xaI h a4 l2 fun x3 =>
 xB x1 fun a6 =>
 xsI h a6 (wr ((wr (113 * l1)) + l2)) x3 fun h5 =>
 lp d 156 n 2 [some (iR (some l0)), some (iI l1), some (iI (wr (l2 + 1)))] [] h5
 else
 some (o0, h))) := rfl
-- TownSundaysModel.takesBack(I)V
theorem r_M_takesBack (d : Nat) (l0 : Nat) (l1 : Int) (h : IH) : rn (d + 1) 157 [iR (some l0), iI l1] h = lp d 157 (999999 + 1) 0 [some (iR (some l0)), some (iI l1), none] [] h := rn_lp rfl rfl
set_option maxRecDepth 20000 in
set_option maxHeartbeats 4000000 in
theorem e_M_takesBack (d n : Nat) (l0 : Nat) (l1 : Int) (h : IH) :
 lp d 157 (n + 1) 0 [some (iR (some l0)), some (iI l1), none] [] h =
 (lp d 157 n 2 [some (iR (some l0)), some (iI l1), some (iI 0)] [] h) := rfl
set_option maxRecDepth 20000 in
set_option maxHeartbeats 4000000 in
theorem e_M_takesBack_2 (d n : Nat) (l0 : Nat) (l1 : Int) (l2 : Int) (h : IH) :
 lp d 157 (n + 1) 2 [some (iR (some l0)), some (iI l1), some (iI l2)] [] h =
 ((if l2 < 113 then
 xgR h l0 22 2 fun x1 =>
 xgR h l0 22 5 fun x2 =>
 xB x2 fun a4 =>
 xaI h a4 (wr ((wr (113 * l1)) + l2)) fun x3 =>
 xB x1 fun a6 =>
 xsI h a6 l2 x3 fun h5 =>
 lp d 157 n 2 [some (iR (some l0)), some (iI l1), some (iI (wr (l2 + 1)))] [] h5
 else
 some (o0, h))) := rfl
-- TownSundaysModel.image(I)I
theorem r_M_image (d : Nat) (l0 : Nat) (l1 : Int) (h : IH) : rn (d + 1) 158 [iR (some l0), iI l1] h = lp d 158 (999999 + 1) 0 [some (iR (some l0)), some (iI l1), none] [] h := rn_lp rfl rfl
set_option maxRecDepth 20000 in
set_option maxHeartbeats 4000000 in
theorem e_M_image (d n : Nat) (l0 : Nat) (l1 : Int) (h : IH) :
 lp d 158 (n + 1) 0 [some (iR (some l0)), some (iI l1), none] [] h =
 (kI (rn d 147 [iI l1, iI 0, iI 1] h) fun x2 h1 =>
 (if x2 = 0 then
 xck h1 l0 22 <|
 kI (rn d 150 [iR (some l0), iI (-1)] h1) fun x4 h3 =>
 some (oI x4, h3)
 else
 lp d 158 n 17 [some (iR (some l0)), some (iI l1), some (iI 0)] [] h1)) := rfl
set_option maxRecDepth 20000 in
set_option maxHeartbeats 4000000 in
theorem e_M_image_17 (d n : Nat) (l0 : Nat) (l1 : Int) (l2 : Int) (h : IH) :
 lp d 158 (n + 1) 17 [some (iR (some l0)), some (iI l1), some (iI l2)] [] h =
 ((if l2 < 5794 then
 xgR h l0 22 3 fun x1 =>
 xgR h l0 22 2 fun x2 =>
 xB x2 fun a4 =>
 xaI h a4 l2 fun x3 =>
 xB x1 fun a6 =>
 xsI h a6 (wr ((wr (5794 * l1)) + l2)) x3 fun h5 =>
 lp d 158 n 17 [some (iR (some l0)), some (iI l1), some (iI (wr (l2 + 1)))] [] h5
 else
 xgR h l0 22 4 fun x7 =>
 xB x7 fun a9 =>
 xsB h a9 l1 1 fun h8 =>
 xck h8 l0 22 <|
 kI (rn d 151 [iR (some l0), iI 0] h8) fun x11 h10 =>
 some (oI x11, h10))) := rfl
-- TownSundaysModel.back(I)I
theorem r_M_back (d : Nat) (l0 : Nat) (l1 : Int) (h : IH) : rn (d + 1) 159 [iR (some l0), iI l1] h = lp d 159 (999999 + 1) 0 [some (iR (some l0)), some (iI l1), none] [] h := rn_lp rfl rfl
set_option maxRecDepth 20000 in
set_option maxHeartbeats 4000000 in
theorem e_M_back (d n : Nat) (l0 : Nat) (l1 : Int) (h : IH) :
 lp d 159 (n + 1) 0 [some (iR (some l0)), some (iI l1), none] [] h =
 (kI (rn d 147 [iI l1, iI 0, iI 1] h) fun x2 h1 =>
 (if x2 = 0 then
 xck h1 l0 22 <|
 kI (rn d 150 [iR (some l0), iI (-1)] h1) fun x4 h3 =>
 some (oI x4, h3)
 else
 xgR h1 l0 22 4 fun x5 =>
 xB x5 fun a7 =>
 xaB h1 a7 l1 fun x6 =>
 (if x6 = 0 then
 xck h1 l0 22 <|
 kI (rn d 150 [iR (some l0), iI (-2)] h1) fun x9 h8 =>
 some (oI x9, h8)
 else
 lp d 159 n 33 [some (iR (some l0)), some (iI l1), some (iI 0)] [] h1))) := rfl
set_option maxRecDepth 20000 in
set_option maxHeartbeats 4000000 in
theorem e_M_back_33 (d n : Nat) (l0 : Nat) (l1 : Int) (l2 : Int) (h : IH) :
 lp d 159 (n + 1) 33 [some (iR (some l0)), some (iI l1), some (iI l2)] [] h =
 ((if l2 < 5794 then
 xgR h l0 22 2 fun x1 =>
 xgR h l0 22 3 fun x2 =>
 xB x2 fun a4 =>
 xaI h a4 (wr ((wr (5794 * l1)) + l2)) fun x3 =>
 xB x1 fun a6 =>
 xsI h a6 l2 x3 fun h5 =>
 lp d 159 n 33 [some (iR (some l0)), some (iI l1), some (iI (wr (l2 + 1)))] [] h5
 else
 xck h l0 22 <|
 kI (rn d 152 [iR (some l0), iI 0] h) fun x8 h7 =>
 some (oI x8, h7))) := rfl
-- TownSundaysModel.townMany()I
theorem r_M_townMany (d : Nat) (l0 : Nat) (h : IH) : rn (d + 1) 160 [iR (some l0)] h = lp d 160 (999999 + 1) 0 [some (iR (some l0))] [] h := rn_lp rfl rfl
set_option maxRecDepth 20000 in
set_option maxHeartbeats 4000000 in
theorem e_M_townMany (d n : Nat) (l0 : Nat) (h : IH) :
 lp d 160 (n + 1) 0 [some (iR (some l0))] [] h =
 (xgR h l0 22 2 fun x1 =>
 xB x1 fun a3 =>
 xaI h a3 183 fun x2 =>
 some (oI x2, h)) := rfl
-- TownSundaysModel.isTown(I)Z
theorem r_M_isTown (d : Nat) (l0 : Nat) (l1 : Int) (h : IH) : rn (d + 1) 161 [iR (some l0), iI l1] h = lp d 161 (999999 + 1) 0 [some (iR (some l0)), some (iI l1)] [] h := rn_lp rfl rfl
set_option maxRecDepth 20000 in
set_option maxHeartbeats 4000000 in
theorem e_M_isTown (d n : Nat) (l0 : Nat) (l1 : Int) (h : IH) :
 lp d 161 (n + 1) 0 [some (iR (some l0)), some (iI l1)] [] h =
 (xck h l0 22 <|
 kI (rn d 160 [iR (some l0)] h) fun x2 h1 =>
 kI (rn d 147 [iI l1, iI 0, iI (wr (x2 - 1))] h1) fun x4 h3 =>
 xZ x4 h3) := rfl
-- TownSundaysModel.areTwo(II)Z
theorem r_M_areTwo (d : Nat) (l0 : Nat) (l1 : Int) (l2 : Int) (h : IH) : rn (d + 1) 162 [iR (some l0), iI l1, iI l2] h = lp d 162 (999999 + 1) 0 [some (iR (some l0)), some (iI l1), some (iI l2)] [] h := rn_lp rfl rfl
set_option maxRecDepth 20000 in
set_option maxHeartbeats 4000000 in
theorem e_M_areTwo (d n : Nat) (l0 : Nat) (l1 : Int) (l2 : Int) (h : IH) :
 lp d 162 (n + 1) 0 [some (iR (some l0)), some (iI l1), some (iI l2)] [] h =
 (xck h l0 22 <|
 kI (rn d 161 [iR (some l0), iI l1] h) fun x2 h1 =>
 (if x2 = 0 then
 xZ 0 h1
 else
 xck h1 l0 22 <|
 kI (rn d 161 [iR (some l0), iI l2] h1) fun x4 h3 =>
 (if x4 = 0 then
 xZ 0 h3
 else
 (if l1 = l2 then
 xZ 0 h3
 else
 xZ 1 h3)))) := rfl
-- TownSundaysModel.whereIs(I)I
theorem r_M_whereIs (d : Nat) (l0 : Nat) (l1 : Int) (h : IH) : rn (d + 1) 163 [iR (some l0), iI l1] h = lp d 163 (999999 + 1) 0 [some (iR (some l0)), some (iI l1), none] [] h := rn_lp rfl rfl
set_option maxRecDepth 20000 in
set_option maxHeartbeats 4000000 in
theorem e_M_whereIs (d n : Nat) (l0 : Nat) (l1 : Int) (h : IH) :
 lp d 163 (n + 1) 0 [some (iR (some l0)), some (iI l1), none] [] h =
 (lp d 163 n 2 [some (iR (some l0)), some (iI l1), some (iI 0)] [] h) := rfl
set_option maxRecDepth 20000 in
set_option maxHeartbeats 4000000 in
theorem e_M_whereIs_2 (d n : Nat) (l0 : Nat) (l1 : Int) (l2 : Int) (h : IH) :
 lp d 163 (n + 1) 2 [some (iR (some l0)), some (iI l1), some (iI l2)] [] h =
 (xgR h l0 22 2 fun x1 =>
 xB x1 fun a3 =>
 xaI h a3 (wr (0 + l2)) fun x2 =>
 (if x2 = l1 then
 some (oI l2, h)
 else
 lp d 163 n 2 [some (iR (some l0)), some (iI l1), some (iI (wr (l2 + 1)))] [] h)) := rfl
-- TownSundaysModel.town(II)I
theorem r_M_town (d : Nat) (l0 : Nat) (l1 : Int) (l2 : Int) (h : IH) : rn (d + 1) 164 [iR (some l0), iI l1, iI l2] h = lp d 164 (999999 + 1) 0 [some (iR (some l0)), some (iI l1), some (iI l2), none] [] h := rn_lp rfl rfl
set_option maxRecDepth 20000 in
set_option maxHeartbeats 4000000 in
theorem e_M_town (d n : Nat) (l0 : Nat) (l1 : Int) (l2 : Int) (h : IH) :
 lp d 164 (n + 1) 0 [some (iR (some l0)), some (iI l1), some (iI l2), none] [] h =
 (kI (rn d 147 [iI l1, iI 0, iI 9] h) fun x2 h1 =>
 (if x2 = 0 then
 xck h1 l0 22 <|
 kI (rn d 150 [iR (some l0), iI (-1)] h1) fun x4 h3 =>
 some (oI x4, h3)
 else
 kI (rn d 147 [iI l2, iI 0, iI 9] h1) fun x6 h5 =>
 (if x6 = 0 then
 xck h5 l0 22 <|
 kI (rn d 150 [iR (some l0), iI (-1)] h5) fun x8 h7 =>
 some (oI x8, h7)
 else
 xck h5 l0 22 <|
 kI (rn d 160 [iR (some l0)] h5) fun x10 h9 =>
 (if x10 = 7 then
 xck h9 l0 22 <|
 kI (rn d 150 [iR (some l0), iI (-5)] h9) fun x12 h11 =>
 some (oI x12, h11)
 else
 xgR h9 l0 22 2 fun x13 =>
 xB x13 fun a15 =>
 xsI h9 a15 (wr (0 + x10)) x10 fun h14 =>
 xgR h14 l0 22 2 fun x16 =>
 xB x16 fun a18 =>
 xsI h14 a18 (wr (7 + x10)) l1 fun h17 =>
 xgR h17 l0 22 2 fun x19 =>
 xB x19 fun a21 =>
 xsI h17 a21 (wr (113 + x10)) l2 fun h20 =>
 xgR h20 l0 22 2 fun x22 =>
 xB x22 fun a24 =>
 xaI h20 a24 183 fun x23 =>
 xB x22 fun a26 =>
 xsI h20 a26 183 (wr (x23 + 1)) fun h25 =>
 xck h25 l0 22 <|
 kI (rn d 152 [iR (some l0), iI x10] h25) fun x28 h27 =>
 some (oI x28, h27))))) := rfl
-- TownSundaysModel.of(II)I
theorem r_M_of (d : Nat) (l0 : Nat) (l1 : Int) (l2 : Int) (h : IH) : rn (d + 1) 165 [iR (some l0), iI l1, iI l2] h = lp d 165 (999999 + 1) 0 [some (iR (some l0)), some (iI l1), some (iI l2), none] [] h := rn_lp rfl rfl
set_option maxRecDepth 20000 in
set_option maxHeartbeats 4000000 in
theorem e_M_of (d n : Nat) (l0 : Nat) (l1 : Int) (l2 : Int) (h : IH) :
 lp d 165 (n + 1) 0 [some (iR (some l0)), some (iI l1), some (iI l2), none] [] h =
 (xck h l0 22 <|
 kI (rn d 161 [iR (some l0), iI l1] h) fun x2 h1 =>
 (if x2 = 0 then
 some (oI (-1), h1)
 else
 (if l2 = 0 then
 xgR h1 l0 22 2 fun x3 =>
 xB x3 fun a5 =>
 xaI h1 a5 (wr (0 + l1)) fun x4 =>
 some (oI x4, h1)
 else
 xmI (wr (l2 - 1)) 7 fun x6 =>
 kI (rn d 147 [iI l2, iI 1, iI 21] h1) fun x8 h7 =>
 (if x8 = 0 then
 some (oI (-1), h7)
 else
 xck h7 l0 22 <|
 kI (rn d 161 [iR (some l0), iI x6] h7) fun x10 h9 =>
 (if x10 = 0 then
 some (oI (-1), h9)
 else
 (if l2 ≤ 7 then
 xck h9 l0 22 <|
 kI (rn d 221 [iR (some l0), iI l1, iI x6] h9) fun x12 h11 =>
 some (oI x12, h11)
 else
 (if l2 ≤ 14 then
 xgR h9 l0 22 2 fun x13 =>
 kI (rn d 154 [iI l1, iI x6] h9) fun x15 h14 =>
 xB x13 fun a17 =>
 xaI h14 a17 (wr (14 + x15)) fun x16 =>
 some (oI x16, h14)
 else
 xck h9 l0 22 <|
 kI (rn d 225 [iR (some l0), iI l1, iI x6] h9) fun x19 h18 =>
 (if x19 = 0 then
 some (oI 0, h18)
 else
 some (oI 1, h18))))))))) := rfl
-- TownSundaysModel.sunday(II)I
theorem r_M_sunday (d : Nat) (l0 : Nat) (l1 : Int) (l2 : Int) (h : IH) : rn (d + 1) 166 [iR (some l0), iI l1, iI l2] h = lp d 166 (999999 + 1) 0 [some (iR (some l0)), some (iI l1), some (iI l2)] [] h := rn_lp rfl rfl
set_option maxRecDepth 20000 in
set_option maxHeartbeats 4000000 in
theorem e_M_sunday (d n : Nat) (l0 : Nat) (l1 : Int) (l2 : Int) (h : IH) :
 lp d 166 (n + 1) 0 [some (iR (some l0)), some (iI l1), some (iI l2)] [] h =
 (xck h l0 22 <|
 kI (rn d 161 [iR (some l0), iI l1] h) fun x2 h1 =>
 (if x2 = 0 then
 some (oI (-1), h1)
 else
 (if l2 = 0 then
 xck h1 l0 22 <|
 kI (rn d 163 [iR (some l0), iI l1] h1) fun x14 h13 =>
 some (oI x14, h13)
 else
 (if l2 = 1 then
 xgR h1 l0 22 2 fun x10 =>
 xB x10 fun a12 =>
 xaI h1 a12 (wr (7 + l1)) fun x11 =>
 some (oI x11, h1)
 else
 (if l2 = 2 then
 xgR h1 l0 22 2 fun x7 =>
 xB x7 fun a9 =>
 xaI h1 a9 (wr (113 + l1)) fun x8 =>
 some (oI x8, h1)
 else
 (if l2 = 3 then
 xck h1 l0 22 <|
 kI (rn d 163 [iR (some l0), iI l1] h1) fun x4 h3 =>
 xck h3 l0 22 <|
 kI (rn d 222 [iR (some l0), iI x4, iI l1] h3) fun x6 h5 =>
 some (oI x6, h5)
 else
 some (oI (-1), h1))))))) := rfl
-- TownSundaysModel.laysRoad(III)V
theorem r_M_laysRoad (d : Nat) (l0 : Nat) (l1 : Int) (l2 : Int) (l3 : Int) (h : IH) : rn (d + 1) 167 [iR (some l0), iI l1, iI l2, iI l3] h = lp d 167 (999999 + 1) 0 [some (iR (some l0)), some (iI l1), some (iI l2), some (iI l3)] [] h := rn_lp rfl rfl
set_option maxRecDepth 20000 in
set_option maxHeartbeats 4000000 in
theorem e_M_laysRoad (d n : Nat) (l0 : Nat) (l1 : Int) (l2 : Int) (l3 : Int) (h : IH) :
 lp d 167 (n + 1) 0 [some (iR (some l0)), some (iI l1), some (iI l2), some (iI l3)] [] h =
 (xgR h l0 22 2 fun x1 =>
 kI (rn d 154 [iI l1, iI l2] h) fun x3 h2 =>
 xB x1 fun a5 =>
 xsI h2 a5 (wr (120 + x3)) l3 fun h4 =>
 xgR h4 l0 22 2 fun x6 =>
 kI (rn d 154 [iI l2, iI l1] h4) fun x8 h7 =>
 xB x6 fun a10 =>
 xsI h7 a10 (wr (120 + x8)) l3 fun h9 =>
 xgR h9 l0 22 2 fun x11 =>
 kI (rn d 154 [iI l1, iI l2] h9) fun x13 h12 =>
 xB x11 fun a15 =>
 xsI h12 a15 (wr (63 + x13)) 0 fun h14 =>
 xgR h14 l0 22 2 fun x16 =>
 kI (rn d 154 [iI l2, iI l1] h14) fun x18 h17 =>
 xB x16 fun a20 =>
 xsI h17 a20 (wr (63 + x18)) 0 fun h19 =>
 some (o0, h19)) := rfl
-- TownSundaysModel.milesOf(II)I
theorem r_M_milesOf (d : Nat) (l0 : Nat) (l1 : Int) (l2 : Int) (h : IH) : rn (d + 1) 168 [iR (some l0), iI l1, iI l2] h = lp d 168 (999999 + 1) 0 [some (iR (some l0)), some (iI l1), some (iI l2)] [] h := rn_lp rfl rfl
set_option maxRecDepth 20000 in
set_option maxHeartbeats 4000000 in
theorem e_M_milesOf (d n : Nat) (l0 : Nat) (l1 : Int) (l2 : Int) (h : IH) :
 lp d 168 (n + 1) 0 [some (iR (some l0)), some (iI l1), some (iI l2)] [] h =
 (xgR h l0 22 2 fun x1 =>
 kI (rn d 154 [iI l1, iI l2] h) fun x3 h2 =>
 xB x1 fun a5 =>
 xaI h2 a5 (wr (120 + x3)) fun x4 =>
 some (oI x4, h2)) := rfl
-- TownSundaysModel.isOpen(II)Z
theorem r_M_isOpen (d : Nat) (l0 : Nat) (l1 : Int) (l2 : Int) (h : IH) : rn (d + 1) 169 [iR (some l0), iI l1, iI l2] h = lp d 169 (999999 + 1) 0 [some (iR (some l0)), some (iI l1), some (iI l2)] [] h := rn_lp rfl rfl
set_option maxRecDepth 20000 in
set_option maxHeartbeats 4000000 in
theorem e_M_isOpen (d n : Nat) (l0 : Nat) (l1 : Int) (l2 : Int) (h : IH) :
 lp d 169 (n + 1) 0 [some (iR (some l0)), some (iI l1), some (iI l2)] [] h =
 (xck h l0 22 <|
 kI (rn d 168 [iR (some l0), iI l1, iI l2] h) fun x2 h1 =>
 (if x2 ≤ 0 then
 xZ 0 h1
 else
 xgR h1 l0 22 2 fun x3 =>
 kI (rn d 154 [iI l1, iI l2] h1) fun x5 h4 =>
 xB x3 fun a7 =>
 xaI h4 a7 (wr (63 + x5)) fun x6 =>
 (if x6 = 0 then
 xZ 1 h4
 else
 xZ 0 h4))) := rfl
-- TownSundaysModel.road(III)I
theorem r_M_road (d : Nat) (l0 : Nat) (l1 : Int) (l2 : Int) (l3 : Int) (h : IH) : rn (d + 1) 170 [iR (some l0), iI l1, iI l2, iI l3] h = lp d 170 (999999 + 1) 0 [some (iR (some l0)), some (iI l1), some (iI l2), some (iI l3), none] [] h := rn_lp rfl rfl
set_option maxRecDepth 20000 in
set_option maxHeartbeats 4000000 in
theorem e_M_road (d n : Nat) (l0 : Nat) (l1 : Int) (l2 : Int) (l3 : Int) (h : IH) :
 lp d 170 (n + 1) 0 [some (iR (some l0)), some (iI l1), some (iI l2), some (iI l3), none] [] h =
 ((if l1 = l2 then
 xck h l0 22 <|
 kI (rn d 150 [iR (some l0), iI (-1)] h) fun x2 h1 =>
 some (oI x2, h1)
 else
 kI (rn d 147 [iI l3, iI 0, iI 99] h) fun x4 h3 =>
 (if x4 = 0 then
 xck h3 l0 22 <|
 kI (rn d 150 [iR (some l0), iI (-1)] h3) fun x6 h5 =>
 some (oI x6, h5)
 else
 xck h3 l0 22 <|
 kI (rn d 162 [iR (some l0), iI l1, iI l2] h3) fun x8 h7 =>
 (if x8 = 0 then
 xck h7 l0 22 <|
 kI (rn d 150 [iR (some l0), iI (-2)] h7) fun x10 h9 =>
 some (oI x10, h9)
 else
 xck h7 l0 22 <|
 kI (rn d 168 [iR (some l0), iI l1, iI l2] h7) fun x12 h11 =>
 xck h11 l0 22 <|
 kV (rn d 167 [iR (some l0), iI l1, iI l2, iI l3] h11) fun h13 =>
 xck h13 l0 22 <|
 kI (rn d 152 [iR (some l0), iI x12] h13) fun x15 h14 =>
 some (oI x15, h14))))) := rfl
-- TownSundaysModel.between(III)I
theorem r_M_between (d : Nat) (l0 : Nat) (l1 : Int) (l2 : Int) (l3 : Int) (h : IH) : rn (d + 1) 171 [iR (some l0), iI l1, iI l2, iI l3] h = lp d 171 (999999 + 1) 0 [some (iR (some l0)), some (iI l1), some (iI l2), some (iI l3)] [] h := rn_lp rfl rfl
set_option maxRecDepth 20000 in
set_option maxHeartbeats 4000000 in
theorem e_M_between (d n : Nat) (l0 : Nat) (l1 : Int) (l2 : Int) (l3 : Int) (h : IH) :
 lp d 171 (n + 1) 0 [some (iR (some l0)), some (iI l1), some (iI l2), some (iI l3)] [] h =
 (xck h l0 22 <|
 kI (rn d 162 [iR (some l0), iI l1, iI l2] h) fun x2 h1 =>
 (if x2 = 0 then
 some (oI (-1), h1)
 else
 kI (rn d 147 [iI l3, iI 0, iI 1] h1) fun x4 h3 =>
 (if x4 = 0 then
 some (oI (-1), h3)
 else
 (if l3 = 0 then
 xck h3 l0 22 <|
 kI (rn d 168 [iR (some l0), iI l1, iI l2] h3) fun x6 h5 =>
 some (oI x6, h5)
 else
 xgR h3 l0 22 2 fun x7 =>
 kI (rn d 154 [iI l1, iI l2] h3) fun x9 h8 =>
 xB x7 fun a11 =>
 xaI h8 a11 (wr (63 + x9)) fun x10 =>
 some (oI x10, h8))))) := rfl
-- TownSundaysModel.isTerm(II)Z
theorem r_M_isTerm (d : Nat) (l0 : Int) (l1 : Int) (h : IH) : rn (d + 1) 172 [iI l0, iI l1] h = lp d 172 (999999 + 1) 0 [some (iI l0), some (iI l1)] [] h := rn_lp rfl rfl
set_option maxRecDepth 20000 in
set_option maxHeartbeats 4000000 in
theorem e_M_isTerm (d n : Nat) (l0 : Int) (l1 : Int) (h : IH) :
 lp d 172 (n + 1) 0 [some (iI l0), some (iI l1)] [] h =
 ((if l0 = 0 then
 kI (rn d 147 [iI l1, iI 0, iI 999] h) fun x6 h5 =>
 xZ x6 h5
 else
 (if l0 = 1 then
 kI (rn d 147 [iI l1, iI 0, iI 10] h) fun x4 h3 =>
 xZ x4 h3
 else
 (if l0 = 2 then
 kI (rn d 147 [iI l1, iI 0, iI 9] h) fun x2 h1 =>
 xZ x2 h1
 else
 xZ 0 h)))) := rfl
-- TownSundaysModel.termAt(I)I
theorem r_M_termAt (d : Nat) (l0 : Int) (h : IH) : rn (d + 1) 173 [iI l0] h = lp d 173 (999999 + 1) 0 [some (iI l0)] [] h := rn_lp rfl rfl
set_option maxRecDepth 20000 in
set_option maxHeartbeats 4000000 in
theorem e_M_termAt (d n : Nat) (l0 : Int) (h : IH) :
 lp d 173 (n + 1) 0 [some (iI l0)] [] h =
 ((if l0 = 0 then
 some (oI 112, h)
 else
 (if l0 = 1 then
 some (oI 181, h)
 else
 some (oI 182, h)))) := rfl
-- TownSundaysModel.terms(II)I
theorem r_M_terms (d : Nat) (l0 : Nat) (l1 : Int) (l2 : Int) (h : IH) : rn (d + 1) 174 [iR (some l0), iI l1, iI l2] h = lp d 174 (999999 + 1) 0 [some (iR (some l0)), some (iI l1), some (iI l2), none] [] h := rn_lp rfl rfl
set_option maxRecDepth 20000 in
set_option maxHeartbeats 4000000 in
theorem e_M_terms (d n : Nat) (l0 : Nat) (l1 : Int) (l2 : Int) (h : IH) :
 lp d 174 (n + 1) 0 [some (iR (some l0)), some (iI l1), some (iI l2), none] [] h =
 (kI (rn d 172 [iI l1, iI l2] h) fun x2 h1 =>
 (if x2 = 0 then
 xck h1 l0 22 <|
 kI (rn d 150 [iR (some l0), iI (-1)] h1) fun x4 h3 =>
 some (oI x4, h3)
 else
 xgR h1 l0 22 2 fun x5 =>
 kI (rn d 173 [iI l1] h1) fun x7 h6 =>
 xB x5 fun a9 =>
 xaI h6 a9 x7 fun x8 =>
 xgR h6 l0 22 2 fun x10 =>
 kI (rn d 173 [iI l1] h6) fun x12 h11 =>
 xB x10 fun a14 =>
 xsI h11 a14 x12 l2 fun h13 =>
 xck h13 l0 22 <|
 kI (rn d 152 [iR (some l0), iI x8] h13) fun x16 h15 =>
 some (oI x16, h15))) := rfl
-- TownSundaysModel.row()I
theorem r_M_row (d : Nat) (l0 : Nat) (h : IH) : rn (d + 1) 175 [iR (some l0)] h = lp d 175 (999999 + 1) 0 [some (iR (some l0)), none, none, none, none] [] h := rn_lp rfl rfl
set_option maxRecDepth 20000 in
set_option maxHeartbeats 4000000 in
theorem e_M_row (d n : Nat) (l0 : Nat) (h : IH) :
 lp d 175 (n + 1) 0 [some (iR (some l0)), none, none, none, none] [] h =
 (xgI h l0 22 13 fun x1 =>
 xpI h l0 22 13 0 fun h2 =>
 (if x1 = 0 then
 xck h2 l0 22 <|
 kI (rn d 150 [iR (some l0), iI (-6)] h2) fun x4 h3 =>
 some (oI x4, h3)
 else
 xmI x1 3 fun x5 =>
 (if x5 = 0 then
 xpI h2 l0 22 6 0 fun h6 =>
 lp d 175 n 40 [some (iR (some l0)), some (iI x1), some (iI 0), some (iI 0), none] [] h6
 else
 xpI h2 l0 22 6 1 fun h7 =>
 lp d 175 n 40 [some (iR (some l0)), some (iI x1), some (iI 0), some (iI 0), none] [] h7))) := rfl
set_option maxRecDepth 20000 in
set_option maxHeartbeats 4000000 in
theorem e_M_row_40 (d n : Nat) (l0 : Nat) (l1 : Int) (l2 : Int) (l3 : Int) (h : IH) :
 lp d 175 (n + 1) 40 [some (iR (some l0)), some (iI l1), some (iI l2), some (iI l3), none] [] h =
 ((if (wr (l3 + 3)) ≤ l1 then
 xgR h l0 22 11 fun x1 =>
 xB x1 fun a3 =>
 xaB h a3 l3 fun x2 =>
 xgR h l0 22 11 fun x4 =>
 xB x4 fun a6 =>
 xaB h a6 (wr (l3 + 1)) fun x5 =>
 xck h l0 22 <|
 kI (rn d 162 [iR (some l0), iI x2, iI x5] h) fun x8 h7 =>
 (if x8 = 0 then
 (if 0 = 0 then
 lp d 175 n 123 [some (iR (some l0)), some (iI l1), some (iI l2), some (iI l3), some (iI 0)] [] h7
 else
 xgR h7 l0 22 11 fun x9 =>
 xB x9 fun a11 =>
 xaB h7 a11 l3 fun x10 =>
 xgR h7 l0 22 11 fun x12 =>
 xB x12 fun a14 =>
 xaB h7 a14 (wr (l3 + 1)) fun x13 =>
 xgR h7 l0 22 11 fun x15 =>
 xB x15 fun a17 =>
 xaB h7 a17 (wr (l3 + 2)) fun x16 =>
 xck h7 l0 22 <|
 kV (rn d 167 [iR (some l0), iI x10, iI x13, iI x16] h7) fun h18 =>
 lp d 175 n 123 [some (iR (some l0)), some (iI l1), some (iI l2), some (iI l3), some (iI 0)] [] h18)
 else
 xgR h7 l0 22 11 fun x19 =>
 xB x19 fun a21 =>
 xaB h7 a21 (wr (l3 + 2)) fun x20 =>
 kI (rn d 147 [iI x20, iI 0, iI 99] h7) fun x23 h22 =>
 (if x23 = 0 then
 (if 0 = 0 then
 lp d 175 n 123 [some (iR (some l0)), some (iI l1), some (iI l2), some (iI l3), some (iI 0)] [] h22
 else
 xgR h22 l0 22 11 fun x24 =>
 xB x24 fun a26 =>
 xaB h22 a26 l3 fun x25 =>
 xgR h22 l0 22 11 fun x27 =>
 xB x27 fun a29 =>
 xaB h22 a29 (wr (l3 + 1)) fun x28 =>
 xgR h22 l0 22 11 fun x30 =>
 xB x30 fun a32 =>
 xaB h22 a32 (wr (l3 + 2)) fun x31 =>
 xck h22 l0 22 <|
 kV (rn d 167 [iR (some l0), iI x25, iI x28, iI x31] h22) fun h33 =>
 lp d 175 n 123 [some (iR (some l0)), some (iI l1), some (iI l2), some (iI l3), some (iI 0)] [] h33)
 else
 (if 1 = 0 then
 lp d 175 n 123 [some (iR (some l0)), some (iI l1), some (iI l2), some (iI l3), some (iI 1)] [] h22
 else
 xgR h22 l0 22 11 fun x34 =>
 xB x34 fun a36 =>
 xaB h22 a36 l3 fun x35 =>
 xgR h22 l0 22 11 fun x37 =>
 xB x37 fun a39 =>
 xaB h22 a39 (wr (l3 + 1)) fun x38 =>
 xgR h22 l0 22 11 fun x40 =>
 xB x40 fun a42 =>
 xaB h22 a42 (wr (l3 + 2)) fun x41 =>
 xck h22 l0 22 <|
 kV (rn d 167 [iR (some l0), iI x35, iI x38, iI x41] h22) fun h43 =>
 lp d 175 n 123 [some (iR (some l0)), some (iI l1), some (iI l2), some (iI l3), some (iI 1)] [] h43)))
 else
 xck h l0 22 <|
 kI (rn d 152 [iR (some l0), iI l2] h) fun x45 h44 =>
 some (oI x45, h44))) := rfl
set_option maxRecDepth 20000 in
set_option maxHeartbeats 4000000 in
theorem e_M_row_123 (d n : Nat) (l0 : Nat) (l1 : Int) (l2 : Int) (l3 : Int) (l4 : Int) (h : IH) :
 lp d 175 (n + 1) 123 [some (iR (some l0)), some (iI l1), some (iI l2), some (iI l3), some (iI l4)] [] h =
 ((if l4 = 0 then
 xgI h l0 22 6 fun x1 =>
 (if l4 = 0 then
 xpI h l0 22 6 (wr (x1 + 1)) fun h2 =>
 lp d 175 n 40 [some (iR (some l0)), some (iI l1), some (iI (wr (l2 + 0))), some (iI (wr (l3 + 3))), none] [] h2
 else
 xpI h l0 22 6 (wr (x1 + 0)) fun h3 =>
 lp d 175 n 40 [some (iR (some l0)), some (iI l1), some (iI (wr (l2 + 0))), some (iI (wr (l3 + 3))), none] [] h3)
 else
 xgI h l0 22 6 fun x4 =>
 (if l4 = 0 then
 xpI h l0 22 6 (wr (x4 + 1)) fun h5 =>
 lp d 175 n 40 [some (iR (some l0)), some (iI l1), some (iI (wr (l2 + 1))), some (iI (wr (l3 + 3))), none] [] h5
 else
 xpI h l0 22 6 (wr (x4 + 0)) fun h6 =>
 lp d 175 n 40 [some (iR (some l0)), some (iI l1), some (iI (wr (l2 + 1))), some (iI (wr (l3 + 3))), none] [] h6))) := rfl
-- TownSundaysModel.sidings()I
theorem r_M_sidings (d : Nat) (l0 : Nat) (h : IH) : rn (d + 1) 176 [iR (some l0)] h = lp d 176 (999999 + 1) 0 [some (iR (some l0))] [] h := rn_lp rfl rfl
set_option maxRecDepth 20000 in
set_option maxHeartbeats 4000000 in
theorem e_M_sidings (d n : Nat) (l0 : Nat) (h : IH) :
 lp d 176 (n + 1) 0 [some (iR (some l0))] [] h =
 (xgI h l0 22 6 fun x1 =>
 some (oI x1, h)) := rfl
-- TownSundaysModel.feed(IIIII)I
theorem r_M_feed (d : Nat) (l0 : Nat) (l1 : Int) (l2 : Int) (l3 : Int) (l4 : Int) (l5 : Int) (h : IH) : rn (d + 1) 177 [iR (some l0), iI l1, iI l2, iI l3, iI l4, iI l5] h = lp d 177 (999999 + 1) 0 [some (iR (some l0)), some (iI l1), some (iI l2), some (iI l3), some (iI l4), some (iI l5), none] [] h := rn_lp rfl rfl
set_option maxRecDepth 20000 in
set_option maxHeartbeats 4000000 in
theorem e_M_feed (d n : Nat) (l0 : Nat) (l1 : Int) (l2 : Int) (l3 : Int) (l4 : Int) (l5 : Int) (h : IH) :
 lp d 177 (n + 1) 0 [some (iR (some l0)), some (iI l1), some (iI l2), some (iI l3), some (iI l4), some (iI l5), none] [] h =
 (xgI h l0 22 13 fun x1 =>
 (if (wr (x1 + 20)) ≤ 400 then
 xgR h l0 22 12 fun x2 =>
 xB x2 fun a4 =>
 xsI h a4 0 l1 fun h3 =>
 xgR h3 l0 22 12 fun x5 =>
 xB x5 fun a7 =>
 xsI h3 a7 1 l2 fun h6 =>
 xgR h6 l0 22 12 fun x8 =>
 xB x8 fun a10 =>
 xsI h6 a10 2 l3 fun h9 =>
 xgR h9 l0 22 12 fun x11 =>
 xB x11 fun a13 =>
 xsI h9 a13 3 l4 fun h12 =>
 xgR h12 l0 22 12 fun x14 =>
 xB x14 fun a16 =>
 xsI h12 a16 4 l5 fun h15 =>
 lp d 177 n 55 [some (iR (some l0)), none, none, none, none, none, some (iI 0)] [] h15
 else
 some (oI (-1), h))) := rfl
set_option maxRecDepth 20000 in
set_option maxHeartbeats 4000000 in
theorem e_M_feed_55 (d n : Nat) (l0 : Nat) (l6 : Int) (h : IH) :
 lp d 177 (n + 1) 55 [some (iR (some l0)), none, none, none, none, none, some (iI l6)] [] h =
 ((if l6 < 20 then
 xgR h l0 22 11 fun x1 =>
 xgI h l0 22 13 fun x2 =>
 xgR h l0 22 12 fun x3 =>
 xdI l6 4 fun x4 =>
 xB x3 fun a6 =>
 xaI h a6 x4 fun x5 =>
 xmI l6 4 fun x7 =>
 xB x1 fun a9 =>
 xsB h a9 (wr (x2 + l6)) (by8 (ishr x5 (wr (24 - (wr (8 * x7)))))) fun h8 =>
 lp d 177 n 55 [some (iR (some l0)), none, none, none, none, none, some (iI (wr (l6 + 1)))] [] h8
 else
 xgI h l0 22 13 fun x10 =>
 xpI h l0 22 13 (wr (x10 + 20)) fun h11 =>
 xgI h11 l0 22 13 fun x12 =>
 some (oI x12, h11))) := rfl
-- TownSundaysModel.end(I)I
theorem r_M_end (d : Nat) (l0 : Nat) (l1 : Int) (h : IH) : rn (d + 1) 178 [iR (some l0), iI l1] h = lp d 178 (999999 + 1) 0 [some (iR (some l0)), some (iI l1)] [] h := rn_lp rfl rfl
set_option maxRecDepth 20000 in
set_option maxHeartbeats 4000000 in
theorem e_M_end (d n : Nat) (l0 : Nat) (l1 : Int) (h : IH) :
 lp d 178 (n + 1) 0 [some (iR (some l0)), some (iI l1)] [] h =
 (xgI h l0 22 13 fun x1 =>
 kI (rn d 147 [iI l1, iI 0, iI x1] h) fun x3 h2 =>
 (if x3 = 0 then
 some (oI (-1), h2)
 else
 xpI h2 l0 22 13 l1 fun h4 =>
 some (oI l1, h4))) := rfl
-- TownSundaysModel.isSmall(I)Z
theorem r_M_isSmall (d : Nat) (l0 : Int) (h : IH) : rn (d + 1) 179 [iI l0] h = lp d 179 (999999 + 1) 0 [some (iI l0)] [] h := rn_lp rfl rfl
set_option maxRecDepth 20000 in
set_option maxHeartbeats 4000000 in
theorem e_M_isSmall (d n : Nat) (l0 : Int) (h : IH) :
 lp d 179 (n + 1) 0 [some (iI l0)] [] h =
 ((if l0 < 97 then
 xZ 0 h
 else
 (if l0 ≤ 122 then
 xZ 1 h
 else
 xZ 0 h))) := rfl
