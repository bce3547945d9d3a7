/-! Equations of methods 230 to 274 (by program, wip/whole/gen17.py) -/
-- TownSundaysModel.canSwap(II)Z
theorem r_M_canSwap (d : Nat) (l0 : Nat) (l1 : Int) (l2 : Int) (h : IH) : rn (d + 1) 230 [iR (some l0), iI l1, iI l2] h = lp d 230 (999999 + 1) 0 [some (iR (some l0)), some (iI l1), some (iI l2)] [] h := rn_lp rfl rfl
set_option maxRecDepth 20000 in
set_option maxHeartbeats 4000000 in
theorem e_M_canSwap (d n : Nat) (l0 : Nat) (l1 : Int) (l2 : Int) (h : IH) :
 lp d 230 (n + 1) 0 [some (iR (some l0)), some (iI l1), some (iI l2)] [] h =
 (xgR h l0 22 2 fun x1 =>
 xB x1 fun a3 =>
 xaI h a3 (wr (0 + l1)) fun x2 =>
 xck h l0 22 <|
 kI (rn d 224 [iR (some l0), iI x2, iI l1, iI l2] h) fun x5 h4 =>
 (if x5 = 0 then
 xZ 0 h4
 else
 xgR h4 l0 22 2 fun x6 =>
 xB x6 fun a8 =>
 xaI h4 a8 (wr (0 + l2)) fun x7 =>
 xck h4 l0 22 <|
 kI (rn d 224 [iR (some l0), iI x7, iI l2, iI l1] h4) fun x10 h9 =>
 (if x10 = 0 then
 xZ 0 h9
 else
 xZ 1 h9))) := rfl
-- TownSundaysModel.swaps(II)V
theorem r_M_swaps (d : Nat) (l0 : Nat) (l1 : Int) (l2 : Int) (h : IH) : rn (d + 1) 231 [iR (some l0), iI l1, iI l2] h = lp d 231 (999999 + 1) 0 [some (iR (some l0)), some (iI l1), some (iI l2), none] [] h := rn_lp rfl rfl
set_option maxRecDepth 20000 in
set_option maxHeartbeats 4000000 in
theorem e_M_swaps (d n : Nat) (l0 : Nat) (l1 : Int) (l2 : Int) (h : IH) :
 lp d 231 (n + 1) 0 [some (iR (some l0)), some (iI l1), some (iI l2), none] [] h =
 (xgR h l0 22 2 fun x1 =>
 xB x1 fun a3 =>
 xaI h a3 (wr (0 + l1)) fun x2 =>
 xgR h l0 22 2 fun x4 =>
 xgR h l0 22 2 fun x5 =>
 xB x5 fun a7 =>
 xaI h a7 (wr (0 + l2)) fun x6 =>
 xB x4 fun a9 =>
 xsI h a9 (wr (0 + l1)) x6 fun h8 =>
 xgR h8 l0 22 2 fun x10 =>
 xB x10 fun a12 =>
 xsI h8 a12 (wr (0 + l2)) x2 fun h11 =>
 some (o0, h11)) := rfl
-- TownSundaysModel.canRound(III)Z
theorem r_M_canRound (d : Nat) (l0 : Nat) (l1 : Int) (l2 : Int) (l3 : Int) (h : IH) : rn (d + 1) 232 [iR (some l0), iI l1, iI l2, iI l3] h = lp d 232 (999999 + 1) 0 [some (iR (some l0)), some (iI l1), some (iI l2), some (iI l3)] [] h := rn_lp rfl rfl
set_option maxRecDepth 20000 in
set_option maxHeartbeats 4000000 in
theorem e_M_canRound (d n : Nat) (l0 : Nat) (l1 : Int) (l2 : Int) (l3 : Int) (h : IH) :
 lp d 232 (n + 1) 0 [some (iR (some l0)), some (iI l1), some (iI l2), some (iI l3)] [] h =
 (xgR h l0 22 2 fun x1 =>
 xB x1 fun a3 =>
 xaI h a3 (wr (0 + l1)) fun x2 =>
 xck h l0 22 <|
 kI (rn d 224 [iR (some l0), iI x2, iI l1, iI l2] h) fun x5 h4 =>
 (if x5 = 0 then
 xZ 0 h4
 else
 xgR h4 l0 22 2 fun x6 =>
 xB x6 fun a8 =>
 xaI h4 a8 (wr (0 + l2)) fun x7 =>
 xck h4 l0 22 <|
 kI (rn d 224 [iR (some l0), iI x7, iI l2, iI l3] h4) fun x10 h9 =>
 (if x10 = 0 then
 xZ 0 h9
 else
 xgR h9 l0 22 2 fun x11 =>
 xB x11 fun a13 =>
 xaI h9 a13 (wr (0 + l3)) fun x12 =>
 xck h9 l0 22 <|
 kI (rn d 224 [iR (some l0), iI x12, iI l3, iI l1] h9) fun x15 h14 =>
 (if x15 = 0 then
 xZ 0 h14
 else
 xZ 1 h14)))) := rfl
-- TownSundaysModel.goesRound(III)V
theorem r_M_goesRound (d : Nat) (l0 : Nat) (l1 : Int) (l2 : Int) (l3 : Int) (h : IH) : rn (d + 1) 233 [iR (some l0), iI l1, iI l2, iI l3] h = lp d 233 (999999 + 1) 0 [some (iR (some l0)), some (iI l1), some (iI l2), some (iI l3), none] [] h := rn_lp rfl rfl
set_option maxRecDepth 20000 in
set_option maxHeartbeats 4000000 in
theorem e_M_goesRound (d n : Nat) (l0 : Nat) (l1 : Int) (l2 : Int) (l3 : Int) (h : IH) :
 lp d 233 (n + 1) 0 [some (iR (some l0)), some (iI l1), some (iI l2), some (iI l3), none] [] h =
 (xgR h l0 22 2 fun x1 =>
 xB x1 fun a3 =>
 xaI h a3 (wr (0 + l3)) fun x2 =>
 xgR h l0 22 2 fun x4 =>
 xgR h l0 22 2 fun x5 =>
 xB x5 fun a7 =>
 xaI h a7 (wr (0 + l2)) fun x6 =>
 xB x4 fun a9 =>
 xsI h a9 (wr (0 + l3)) x6 fun h8 =>
 xgR h8 l0 22 2 fun x10 =>
 xgR h8 l0 22 2 fun x11 =>
 xB x11 fun a13 =>
 xaI h8 a13 (wr (0 + l1)) fun x12 =>
 xB x10 fun a15 =>
 xsI h8 a15 (wr (0 + l2)) x12 fun h14 =>
 xgR h14 l0 22 2 fun x16 =>
 xB x16 fun a18 =>
 xsI h14 a18 (wr (0 + l1)) x2 fun h17 =>
 some (o0, h17)) := rfl
-- TownSundaysModel.yearPasses()V
theorem r_M_yearPasses (d : Nat) (l0 : Nat) (h : IH) : rn (d + 1) 234 [iR (some l0)] h = lp d 234 (999999 + 1) 0 [some (iR (some l0)), none, none] [] h := rn_lp rfl rfl
set_option maxRecDepth 20000 in
set_option maxHeartbeats 4000000 in
theorem e_M_yearPasses (d n : Nat) (l0 : Nat) (h : IH) :
 lp d 234 (n + 1) 0 [some (iR (some l0)), none, none] [] h =
 (lp d 234 n 2 [some (iR (some l0)), some (iI 0), none] [] h) := rfl
set_option maxRecDepth 20000 in
set_option maxHeartbeats 4000000 in
theorem e_M_yearPasses_2 (d n : Nat) (l0 : Nat) (l1 : Int) (h : IH) :
 lp d 234 (n + 1) 2 [some (iR (some l0)), some (iI l1), none] [] h =
 (xck h l0 22 <|
 kI (rn d 160 [iR (some l0)] h) fun x2 h1 =>
 (if l1 < x2 then
 xgR h1 l0 22 32 fun x3 =>
 xgR h1 l0 22 2 fun x4 =>
 xB x4 fun a6 =>
 xaI h1 a6 (wr (0 + l1)) fun x5 =>
 xgR h1 l0 22 2 fun x7 =>
 xB x7 fun a9 =>
 xaI h1 a9 (wr (0 + l1)) fun x8 =>
 xck h1 l0 22 <|
 kI (rn d 222 [iR (some l0), iI l1, iI x8] h1) fun x11 h10 =>
 xB x3 fun a13 =>
 xsI h10 a13 x5 x11 fun h12 =>
 lp d 234 n 2 [some (iR (some l0)), some (iI (wr (l1 + 1))), none] [] h12
 else
 lp d 234 n 44 [some (iR (some l0)), some (iI 0), none] [] h1)) := rfl
set_option maxRecDepth 20000 in
set_option maxHeartbeats 4000000 in
theorem e_M_yearPasses_44 (d n : Nat) (l0 : Nat) (l1 : Int) (h : IH) :
 lp d 234 (n + 1) 44 [some (iR (some l0)), some (iI l1), none] [] h =
 (xck h l0 22 <|
 kI (rn d 160 [iR (some l0)] h) fun x2 h1 =>
 (if l1 < x2 then
 xgR h1 l0 22 2 fun x3 =>
 xB x3 fun a5 =>
 xaI h1 a5 (wr (0 + l1)) fun x4 =>
 kI (rn d 154 [iI l1, iI x4] h1) fun x7 h6 =>
 xgR h6 l0 22 2 fun x8 =>
 xgR h6 l0 22 2 fun x9 =>
 xB x9 fun a11 =>
 xaI h6 a11 (wr (14 + x7)) fun x10 =>
 kI (rn d 148 [iI 99, iI (wr (x10 + 1))] h6) fun x13 h12 =>
 xB x8 fun a15 =>
 xsI h12 a15 (wr (14 + x7)) x13 fun h14 =>
 lp d 234 n 44 [some (iR (some l0)), some (iI (wr (l1 + 1))), none] [] h14
 else
 lp d 234 n 95 [some (iR (some l0)), some (iI 0), none] [] h1)) := rfl
set_option maxRecDepth 20000 in
set_option maxHeartbeats 4000000 in
theorem e_M_yearPasses_95 (d n : Nat) (l0 : Nat) (l1 : Int) (h : IH) :
 lp d 234 (n + 1) 95 [some (iR (some l0)), some (iI l1), none] [] h =
 (xck h l0 22 <|
 kI (rn d 160 [iR (some l0)] h) fun x2 h1 =>
 (if l1 < x2 then
 xgR h1 l0 22 2 fun x3 =>
 xgR h1 l0 22 32 fun x4 =>
 xB x4 fun a6 =>
 xaI h1 a6 l1 fun x5 =>
 xB x3 fun a8 =>
 xsI h1 a8 (wr (7 + l1)) x5 fun h7 =>
 lp d 234 n 95 [some (iR (some l0)), some (iI (wr (l1 + 1))), none] [] h7
 else
 xgR h1 l0 22 2 fun x9 =>
 xB x9 fun a11 =>
 xaI h1 a11 112 fun x10 =>
 xB x9 fun a13 =>
 xsI h1 a13 112 (wr (x10 + 1)) fun h12 =>
 some (o0, h12))) := rfl
-- TownSundaysModel.likedTogether()I
theorem r_M_likedTogether (d : Nat) (l0 : Nat) (h : IH) : rn (d + 1) 235 [iR (some l0)] h = lp d 235 (999999 + 1) 0 [some (iR (some l0)), none, none] [] h := rn_lp rfl rfl
set_option maxRecDepth 20000 in
set_option maxHeartbeats 4000000 in
theorem e_M_likedTogether (d n : Nat) (l0 : Nat) (h : IH) :
 lp d 235 (n + 1) 0 [some (iR (some l0)), none, none] [] h =
 (lp d 235 n 4 [some (iR (some l0)), some (iI 0), some (iI 0)] [] h) := rfl
set_option maxRecDepth 20000 in
set_option maxHeartbeats 4000000 in
theorem e_M_likedTogether_4 (d n : Nat) (l0 : Nat) (l1 : Int) (l2 : Int) (h : IH) :
 lp d 235 (n + 1) 4 [some (iR (some l0)), some (iI l1), some (iI l2)] [] h =
 (xck h l0 22 <|
 kI (rn d 160 [iR (some l0)] h) fun x2 h1 =>
 (if l2 < x2 then
 xgR h1 l0 22 2 fun x3 =>
 xB x3 fun a5 =>
 xaI h1 a5 (wr (0 + l2)) fun x4 =>
 xck h1 l0 22 <|
 kI (rn d 221 [iR (some l0), iI l2, iI x4] h1) fun x7 h6 =>
 lp d 235 n 4 [some (iR (some l0)), some (iI (wr (l1 + x7))), some (iI (wr (l2 + 1)))] [] h6
 else
 some (oI l1, h1))) := rfl
-- TownSundaysModel.swapsKept(II)I
theorem r_M_swapsKept (d : Nat) (l0 : Nat) (l1 : Int) (l2 : Int) (h : IH) : rn (d + 1) 236 [iR (some l0), iI l1, iI l2] h = lp d 236 (999999 + 1) 0 [some (iR (some l0)), some (iI l1), some (iI l2)] [] h := rn_lp rfl rfl
set_option maxRecDepth 20000 in
set_option maxHeartbeats 4000000 in
theorem e_M_swapsKept (d n : Nat) (l0 : Nat) (l1 : Int) (l2 : Int) (h : IH) :
 lp d 236 (n + 1) 0 [some (iR (some l0)), some (iI l1), some (iI l2)] [] h =
 ((if l1 = l2 then
 some (oI (-1), h)
 else
 xck h l0 22 <|
 kI (rn d 162 [iR (some l0), iI l1, iI l2] h) fun x2 h1 =>
 (if x2 = 0 then
 some (oI (-2), h1)
 else
 xck h1 l0 22 <|
 kI (rn d 230 [iR (some l0), iI l1, iI l2] h1) fun x4 h3 =>
 (if x4 = 0 then
 some (oI (-3), h3)
 else
 xck h3 l0 22 <|
 kV (rn d 227 [iR (some l0), iI 0] h3) fun h5 =>
 xck h5 l0 22 <|
 kV (rn d 231 [iR (some l0), iI l1, iI l2] h5) fun h6 =>
 xgR h6 l0 22 2 fun x7 =>
 xB x7 fun a9 =>
 xaI h6 a9 (wr (0 + l1)) fun x8 =>
 some (oI x8, h6))))) := rfl
-- TownSundaysModel.roundsKept(III)I
theorem r_M_roundsKept (d : Nat) (l0 : Nat) (l1 : Int) (l2 : Int) (l3 : Int) (h : IH) : rn (d + 1) 237 [iR (some l0), iI l1, iI l2, iI l3] h = lp d 237 (999999 + 1) 0 [some (iR (some l0)), some (iI l1), some (iI l2), some (iI l3)] [] h := rn_lp rfl rfl
set_option maxRecDepth 20000 in
set_option maxHeartbeats 4000000 in
theorem e_M_roundsKept (d n : Nat) (l0 : Nat) (l1 : Int) (l2 : Int) (l3 : Int) (h : IH) :
 lp d 237 (n + 1) 0 [some (iR (some l0)), some (iI l1), some (iI l2), some (iI l3)] [] h =
 ((if l1 = l2 then
 some (oI (-1), h)
 else
 (if l2 = l3 then
 some (oI (-1), h)
 else
 (if l1 = l3 then
 some (oI (-1), h)
 else
 xck h l0 22 <|
 kI (rn d 162 [iR (some l0), iI l1, iI l2] h) fun x2 h1 =>
 (if x2 = 0 then
 some (oI (-2), h1)
 else
 xck h1 l0 22 <|
 kI (rn d 161 [iR (some l0), iI l3] h1) fun x4 h3 =>
 (if x4 = 0 then
 some (oI (-2), h3)
 else
 xck h3 l0 22 <|
 kI (rn d 232 [iR (some l0), iI l1, iI l2, iI l3] h3) fun x6 h5 =>
 (if x6 = 0 then
 some (oI (-3), h5)
 else
 xck h5 l0 22 <|
 kV (rn d 227 [iR (some l0), iI 1] h5) fun h7 =>
 xck h7 l0 22 <|
 kV (rn d 233 [iR (some l0), iI l1, iI l2, iI l3] h7) fun h8 =>
 xgR h8 l0 22 2 fun x9 =>
 xB x9 fun a11 =>
 xaI h8 a11 (wr (0 + l1)) fun x10 =>
 some (oI x10, h8)))))))) := rfl
-- TownSundaysModel.closesKept(II)I
theorem r_M_closesKept (d : Nat) (l0 : Nat) (l1 : Int) (l2 : Int) (h : IH) : rn (d + 1) 238 [iR (some l0), iI l1, iI l2] h = lp d 238 (999999 + 1) 0 [some (iR (some l0)), some (iI l1), some (iI l2), none] [] h := rn_lp rfl rfl
set_option maxRecDepth 20000 in
set_option maxHeartbeats 4000000 in
theorem e_M_closesKept (d n : Nat) (l0 : Nat) (l1 : Int) (l2 : Int) (h : IH) :
 lp d 238 (n + 1) 0 [some (iR (some l0)), some (iI l1), some (iI l2), none] [] h =
 ((if l1 = l2 then
 some (oI (-1), h)
 else
 xck h l0 22 <|
 kI (rn d 162 [iR (some l0), iI l1, iI l2] h) fun x2 h1 =>
 (if x2 = 0 then
 some (oI (-2), h1)
 else
 xck h1 l0 22 <|
 kI (rn d 168 [iR (some l0), iI l1, iI l2] h1) fun x4 h3 =>
 (if x4 = 0 then
 some (oI (-3), h3)
 else
 xck h3 l0 22 <|
 kV (rn d 227 [iR (some l0), iI 2] h3) fun h5 =>
 xgR h5 l0 22 2 fun x6 =>
 kI (rn d 154 [iI l1, iI l2] h5) fun x8 h7 =>
 xB x6 fun a10 =>
 xaI h7 a10 (wr (63 + x8)) fun x9 =>
 xgR h7 l0 22 2 fun x11 =>
 kI (rn d 154 [iI l1, iI l2] h7) fun x13 h12 =>
 xB x11 fun a15 =>
 xsI h12 a15 (wr (63 + x13)) (wr (1 - x9)) fun h14 =>
 xgR h14 l0 22 2 fun x16 =>
 kI (rn d 154 [iI l2, iI l1] h14) fun x18 h17 =>
 xB x16 fun a20 =>
 xsI h17 a20 (wr (63 + x18)) (wr (1 - x9)) fun h19 =>
 some (oI (wr (1 - x9)), h19))))) := rfl
-- TownSundaysModel.passesKept()I
theorem r_M_passesKept (d : Nat) (l0 : Nat) (h : IH) : rn (d + 1) 239 [iR (some l0)] h = lp d 239 (999999 + 1) 0 [some (iR (some l0)), none] [] h := rn_lp rfl rfl
set_option maxRecDepth 20000 in
set_option maxHeartbeats 4000000 in
theorem e_M_passesKept (d n : Nat) (l0 : Nat) (h : IH) :
 lp d 239 (n + 1) 0 [some (iR (some l0)), none] [] h =
 (xgR h l0 22 2 fun x1 =>
 xB x1 fun a3 =>
 xaI h a3 112 fun x2 =>
 (if x2 = 999 then
 some (oI (-3), h)
 else
 xck h l0 22 <|
 kI (rn d 235 [iR (some l0)] h) fun x5 h4 =>
 xck h4 l0 22 <|
 kV (rn d 227 [iR (some l0), iI 3] h4) fun h6 =>
 xck h6 l0 22 <|
 kV (rn d 234 [iR (some l0)] h6) fun h7 =>
 some (oI x5, h7))) := rfl
-- TownSundaysModel.swap(II)I
theorem r_M_swap (d : Nat) (l0 : Nat) (l1 : Int) (l2 : Int) (h : IH) : rn (d + 1) 240 [iR (some l0), iI l1, iI l2] h = lp d 240 (999999 + 1) 0 [some (iR (some l0)), some (iI l1), some (iI l2)] [] h := rn_lp rfl rfl
set_option maxRecDepth 20000 in
set_option maxHeartbeats 4000000 in
theorem e_M_swap (d n : Nat) (l0 : Nat) (l1 : Int) (l2 : Int) (h : IH) :
 lp d 240 (n + 1) 0 [some (iR (some l0)), some (iI l1), some (iI l2)] [] h =
 (xck h l0 22 <|
 kI (rn d 236 [iR (some l0), iI l1, iI l2] h) fun x2 h1 =>
 xck h1 l0 22 <|
 kI (rn d 229 [iR (some l0), iI x2] h1) fun x4 h3 =>
 some (oI x4, h3)) := rfl
-- TownSundaysModel.round(III)I
theorem r_M_round (d : Nat) (l0 : Nat) (l1 : Int) (l2 : Int) (l3 : Int) (h : IH) : rn (d + 1) 241 [iR (some l0), iI l1, iI l2, iI l3] h = lp d 241 (999999 + 1) 0 [some (iR (some l0)), some (iI l1), some (iI l2), some (iI l3)] [] h := rn_lp rfl rfl
set_option maxRecDepth 20000 in
set_option maxHeartbeats 4000000 in
theorem e_M_round (d n : Nat) (l0 : Nat) (l1 : Int) (l2 : Int) (l3 : Int) (h : IH) :
 lp d 241 (n + 1) 0 [some (iR (some l0)), some (iI l1), some (iI l2), some (iI l3)] [] h =
 (xck h l0 22 <|
 kI (rn d 237 [iR (some l0), iI l1, iI l2, iI l3] h) fun x2 h1 =>
 xck h1 l0 22 <|
 kI (rn d 229 [iR (some l0), iI x2] h1) fun x4 h3 =>
 some (oI x4, h3)) := rfl
-- TownSundaysModel.close(II)I
theorem r_M_close (d : Nat) (l0 : Nat) (l1 : Int) (l2 : Int) (h : IH) : rn (d + 1) 242 [iR (some l0), iI l1, iI l2] h = lp d 242 (999999 + 1) 0 [some (iR (some l0)), some (iI l1), some (iI l2)] [] h := rn_lp rfl rfl
set_option maxRecDepth 20000 in
set_option maxHeartbeats 4000000 in
theorem e_M_close (d n : Nat) (l0 : Nat) (l1 : Int) (l2 : Int) (h : IH) :
 lp d 242 (n + 1) 0 [some (iR (some l0)), some (iI l1), some (iI l2)] [] h =
 (xck h l0 22 <|
 kI (rn d 238 [iR (some l0), iI l1, iI l2] h) fun x2 h1 =>
 xck h1 l0 22 <|
 kI (rn d 229 [iR (some l0), iI x2] h1) fun x4 h3 =>
 some (oI x4, h3)) := rfl
-- TownSundaysModel.pass()I
theorem r_M_pass (d : Nat) (l0 : Nat) (h : IH) : rn (d + 1) 243 [iR (some l0)] h = lp d 243 (999999 + 1) 0 [some (iR (some l0))] [] h := rn_lp rfl rfl
set_option maxRecDepth 20000 in
set_option maxHeartbeats 4000000 in
theorem e_M_pass (d n : Nat) (l0 : Nat) (h : IH) :
 lp d 243 (n + 1) 0 [some (iR (some l0))] [] h =
 (xck h l0 22 <|
 kI (rn d 239 [iR (some l0)] h) fun x2 h1 =>
 xck h1 l0 22 <|
 kI (rn d 229 [iR (some l0), iI x2] h1) fun x4 h3 =>
 some (oI x4, h3)) := rfl
-- TownSundaysModel.ringOf(I)I
theorem r_M_ringOf (d : Nat) (l0 : Nat) (l1 : Int) (h : IH) : rn (d + 1) 244 [iR (some l0), iI l1] h = lp d 244 (999999 + 1) 0 [some (iR (some l0)), some (iI l1), none, none] [] h := rn_lp rfl rfl
set_option maxRecDepth 20000 in
set_option maxHeartbeats 4000000 in
theorem e_M_ringOf (d n : Nat) (l0 : Nat) (l1 : Int) (h : IH) :
 lp d 244 (n + 1) 0 [some (iR (some l0)), some (iI l1), none, none] [] h =
 (lp d 244 n 4 [some (iR (some l0)), some (iI l1), some (iI 0), some (iI l1)] [] h) := rfl
set_option maxRecDepth 20000 in
set_option maxHeartbeats 4000000 in
theorem e_M_ringOf_4 (d n : Nat) (l0 : Nat) (l1 : Int) (l2 : Int) (l3 : Int) (h : IH) :
 lp d 244 (n + 1) 4 [some (iR (some l0)), some (iI l1), some (iI l2), some (iI l3)] [] h =
 (xck h l0 22 <|
 kI (rn d 163 [iR (some l0), iI l3] h) fun x2 h1 =>
 (if x2 = l1 then
 some (oI (wr (l2 + 1)), h1)
 else
 lp d 244 n 4 [some (iR (some l0)), some (iI l1), some (iI (wr (l2 + 1))), some (iI x2)] [] h1)) := rfl
-- TownSundaysModel.isLowest(I)Z
theorem r_M_isLowest (d : Nat) (l0 : Nat) (l1 : Int) (h : IH) : rn (d + 1) 245 [iR (some l0), iI l1] h = lp d 245 (999999 + 1) 0 [some (iR (some l0)), some (iI l1), none] [] h := rn_lp rfl rfl
set_option maxRecDepth 20000 in
set_option maxHeartbeats 4000000 in
theorem e_M_isLowest (d n : Nat) (l0 : Nat) (l1 : Int) (h : IH) :
 lp d 245 (n + 1) 0 [some (iR (some l0)), some (iI l1), none] [] h =
 (xck h l0 22 <|
 kI (rn d 163 [iR (some l0), iI l1] h) fun x2 h1 =>
 lp d 245 n 6 [some (iR (some l0)), some (iI l1), some (iI x2)] [] h1) := rfl
set_option maxRecDepth 20000 in
set_option maxHeartbeats 4000000 in
theorem e_M_isLowest_6 (d n : Nat) (l0 : Nat) (l1 : Int) (l2 : Int) (h : IH) :
 lp d 245 (n + 1) 6 [some (iR (some l0)), some (iI l1), some (iI l2)] [] h =
 ((if l2 ≤ l1 then
 (if l2 = l1 then
 xZ 1 h
 else
 xZ 0 h)
 else
 xck h l0 22 <|
 kI (rn d 163 [iR (some l0), iI l2] h) fun x2 h1 =>
 lp d 245 n 6 [some (iR (some l0)), some (iI l1), some (iI x2)] [] h1)) := rfl
-- TownSundaysModel.rings(I)I
theorem r_M_rings (d : Nat) (l0 : Nat) (l1 : Int) (h : IH) : rn (d + 1) 246 [iR (some l0), iI l1] h = lp d 246 (999999 + 1) 0 [some (iR (some l0)), some (iI l1), none, none] [] h := rn_lp rfl rfl
set_option maxRecDepth 20000 in
set_option maxHeartbeats 4000000 in
theorem e_M_rings (d n : Nat) (l0 : Nat) (l1 : Int) (h : IH) :
 lp d 246 (n + 1) 0 [some (iR (some l0)), some (iI l1), none, none] [] h =
 ((if l1 = (-1) then
 lp d 246 n 27 [some (iR (some l0)), none, some (iI 0), some (iI 0)] [] h
 else
 xck h l0 22 <|
 kI (rn d 161 [iR (some l0), iI l1] h) fun x2 h1 =>
 (if x2 = 0 then
 some (oI (-1), h1)
 else
 xck h1 l0 22 <|
 kI (rn d 244 [iR (some l0), iI l1] h1) fun x4 h3 =>
 some (oI x4, h3)))) := rfl
set_option maxRecDepth 20000 in
set_option maxHeartbeats 4000000 in
theorem e_M_rings_27 (d n : Nat) (l0 : Nat) (l2 : Int) (l3 : Int) (h : IH) :
 lp d 246 (n + 1) 27 [some (iR (some l0)), none, some (iI l2), some (iI l3)] [] h =
 (xck h l0 22 <|
 kI (rn d 160 [iR (some l0)] h) fun x2 h1 =>
 (if l3 < x2 then
 xck h1 l0 22 <|
 kI (rn d 245 [iR (some l0), iI l3] h1) fun x4 h3 =>
 (if x4 = 0 then
 lp d 246 n 27 [some (iR (some l0)), none, some (iI (wr (l2 + 0))), some (iI (wr (l3 + 1)))] [] h3
 else
 lp d 246 n 27 [some (iR (some l0)), none, some (iI (wr (l2 + 1))), some (iI (wr (l3 + 1)))] [] h3)
 else
 some (oI l2, h1))) := rfl
-- TownSundaysModel.divisor(II)I
theorem r_M_divisor (d : Nat) (l0 : Int) (l1 : Int) (h : IH) : rn (d + 1) 247 [iI l0, iI l1] h = lp d 247 (999999 + 1) 0 [some (iI l0), some (iI l1), none, none, none] [] h := rn_lp rfl rfl
set_option maxRecDepth 20000 in
set_option maxHeartbeats 4000000 in
theorem e_M_divisor (d n : Nat) (l0 : Int) (l1 : Int) (h : IH) :
 lp d 247 (n + 1) 0 [some (iI l0), some (iI l1), none, none, none] [] h =
 (lp d 247 n 4 [none, none, some (iI l0), some (iI l1), none] [] h) := rfl
set_option maxRecDepth 20000 in
set_option maxHeartbeats 4000000 in
theorem e_M_divisor_4 (d n : Nat) (l2 : Int) (l3 : Int) (h : IH) :
 lp d 247 (n + 1) 4 [none, none, some (iI l2), some (iI l3), none] [] h =
 ((if l3 ≤ 0 then
 some (oI l2, h)
 else
 xmI l2 l3 fun x1 =>
 lp d 247 n 4 [none, none, some (iI l3), some (iI x1), none] [] h)) := rfl
-- TownSundaysModel.repeated()I
theorem r_M_repeated (d : Nat) (l0 : Nat) (h : IH) : rn (d + 1) 248 [iR (some l0)] h = lp d 248 (999999 + 1) 0 [some (iR (some l0)), none, none] [] h := rn_lp rfl rfl
set_option maxRecDepth 20000 in
set_option maxHeartbeats 4000000 in
theorem e_M_repeated (d n : Nat) (l0 : Nat) (h : IH) :
 lp d 248 (n + 1) 0 [some (iR (some l0)), none, none] [] h =
 (lp d 248 n 4 [some (iR (some l0)), some (iI 1), some (iI 0)] [] h) := rfl
set_option maxRecDepth 20000 in
set_option maxHeartbeats 4000000 in
theorem e_M_repeated_4 (d n : Nat) (l0 : Nat) (l1 : Int) (l2 : Int) (h : IH) :
 lp d 248 (n + 1) 4 [some (iR (some l0)), some (iI l1), some (iI l2)] [] h =
 (xck h l0 22 <|
 kI (rn d 160 [iR (some l0)] h) fun x2 h1 =>
 (if l2 < x2 then
 xck h1 l0 22 <|
 kI (rn d 244 [iR (some l0), iI l2] h1) fun x4 h3 =>
 kI (rn d 247 [iI l1, iI x4] h3) fun x6 h5 =>
 xdI l1 x6 fun x7 =>
 xck h5 l0 22 <|
 kI (rn d 244 [iR (some l0), iI l2] h5) fun x9 h8 =>
 lp d 248 n 4 [some (iR (some l0)), some (iI (wr (x7 * x9))), some (iI (wr (l2 + 1)))] [] h8
 else
 some (oI l1, h1))) := rfl
-- TownSundaysModel.laysWorths(Z)V
theorem r_M_laysWorths (d : Nat) (l0 : Nat) (l1 : Int) (h : IH) : rn (d + 1) 249 [iR (some l0), iI l1] h = lp d 249 (999999 + 1) 0 [some (iR (some l0)), some (iI l1), none, none, none] [] h := rn_lp rfl rfl
set_option maxRecDepth 20000 in
set_option maxHeartbeats 4000000 in
theorem e_M_laysWorths (d n : Nat) (l0 : Nat) (l1 : Int) (h : IH) :
 lp d 249 (n + 1) 0 [some (iR (some l0)), some (iI l1), none, none, none] [] h =
 (lp d 249 n 2 [some (iR (some l0)), some (iI l1), some (iI 0), none, none] [] h) := rfl
set_option maxRecDepth 20000 in
set_option maxHeartbeats 4000000 in
theorem e_M_laysWorths_2 (d n : Nat) (l0 : Nat) (l1 : Int) (l2 : Int) (h : IH) :
 lp d 249 (n + 1) 2 [some (iR (some l0)), some (iI l1), some (iI l2), none, none] [] h =
 (xck h l0 22 <|
 kI (rn d 160 [iR (some l0)] h) fun x2 h1 =>
 (if l2 < x2 then
 lp d 249 n 12 [some (iR (some l0)), some (iI l1), some (iI l2), some (iI 0), none] [] h1
 else
 some (o0, h1))) := rfl
set_option maxRecDepth 20000 in
set_option maxHeartbeats 4000000 in
theorem e_M_laysWorths_12 (d n : Nat) (l0 : Nat) (l1 : Int) (l2 : Int) (l3 : Int) (h : IH) :
 lp d 249 (n + 1) 12 [some (iR (some l0)), some (iI l1), some (iI l2), some (iI l3), none] [] h =
 (xck h l0 22 <|
 kI (rn d 160 [iR (some l0)] h) fun x2 h1 =>
 (if l3 < x2 then
 kI (rn d 154 [iI l2, iI l3] h1) fun x4 h3 =>
 xgR h3 l0 22 36 fun x5 =>
 xck h3 l0 22 <|
 kI (rn d 225 [iR (some l0), iI l2, iI l3] h3) fun x7 h6 =>
 (if x7 = 0 then
 xB x5 fun a9 =>
 xsB h6 a9 x4 0 fun h8 =>
 xgR h8 l0 22 35 fun x10 =>
 (if l1 = 0 then
 xck h8 l0 22 <|
 kI (rn d 221 [iR (some l0), iI l2, iI l3] h8) fun x12 h11 =>
 xB x10 fun a14 =>
 xsI h11 a14 x4 x12 fun h13 =>
 lp d 249 n 12 [some (iR (some l0)), some (iI l1), some (iI l2), some (iI (wr (l3 + 1))), none] [] h13
 else
 xck h8 l0 22 <|
 kI (rn d 220 [iR (some l0), iI l2, iI l3] h8) fun x16 h15 =>
 xB x10 fun a18 =>
 xsI h15 a18 x4 (wr (-x16)) fun h17 =>
 lp d 249 n 12 [some (iR (some l0)), some (iI l1), some (iI l2), some (iI (wr (l3 + 1))), none] [] h17)
 else
 (if l1 = 0 then
 xB x5 fun a20 =>
 xsB h6 a20 x4 1 fun h19 =>
 xgR h19 l0 22 35 fun x21 =>
 (if l1 = 0 then
 xck h19 l0 22 <|
 kI (rn d 221 [iR (some l0), iI l2, iI l3] h19) fun x23 h22 =>
 xB x21 fun a25 =>
 xsI h22 a25 x4 x23 fun h24 =>
 lp d 249 n 12 [some (iR (some l0)), some (iI l1), some (iI l2), some (iI (wr (l3 + 1))), none] [] h24
 else
 xck h19 l0 22 <|
 kI (rn d 220 [iR (some l0), iI l2, iI l3] h19) fun x27 h26 =>
 xB x21 fun a29 =>
 xsI h26 a29 x4 (wr (-x27)) fun h28 =>
 lp d 249 n 12 [some (iR (some l0)), some (iI l1), some (iI l2), some (iI (wr (l3 + 1))), none] [] h28)
 else
 xgR h6 l0 22 2 fun x30 =>
 xB x30 fun a32 =>
 xaI h6 a32 (wr (14 + x4)) fun x31 =>
 (if x31 = 0 then
 xB x5 fun a34 =>
 xsB h6 a34 x4 1 fun h33 =>
 xgR h33 l0 22 35 fun x35 =>
 (if l1 = 0 then
 xck h33 l0 22 <|
 kI (rn d 221 [iR (some l0), iI l2, iI l3] h33) fun x37 h36 =>
 xB x35 fun a39 =>
 xsI h36 a39 x4 x37 fun h38 =>
 lp d 249 n 12 [some (iR (some l0)), some (iI l1), some (iI l2), some (iI (wr (l3 + 1))), none] [] h38
 else
 xck h33 l0 22 <|
 kI (rn d 220 [iR (some l0), iI l2, iI l3] h33) fun x41 h40 =>
 xB x35 fun a43 =>
 xsI h40 a43 x4 (wr (-x41)) fun h42 =>
 lp d 249 n 12 [some (iR (some l0)), some (iI l1), some (iI l2), some (iI (wr (l3 + 1))), none] [] h42)
 else
 xB x5 fun a45 =>
 xsB h6 a45 x4 0 fun h44 =>
 xgR h44 l0 22 35 fun x46 =>
 (if l1 = 0 then
 xck h44 l0 22 <|
 kI (rn d 221 [iR (some l0), iI l2, iI l3] h44) fun x48 h47 =>
 xB x46 fun a50 =>
 xsI h47 a50 x4 x48 fun h49 =>
 lp d 249 n 12 [some (iR (some l0)), some (iI l1), some (iI l2), some (iI (wr (l3 + 1))), none] [] h49
 else
 xck h44 l0 22 <|
 kI (rn d 220 [iR (some l0), iI l2, iI l3] h44) fun x52 h51 =>
 xB x46 fun a54 =>
 xsI h51 a54 x4 (wr (-x52)) fun h53 =>
 lp d 249 n 12 [some (iR (some l0)), some (iI l1), some (iI l2), some (iI (wr (l3 + 1))), none] [] h53))))
 else
 lp d 249 n 2 [some (iR (some l0)), some (iI l1), some (iI (wr (l2 + 1))), none, none] [] h1)) := rfl
-- TownSundaysModel.goesThrough()V
theorem r_M_goesThrough (d : Nat) (l0 : Nat) (h : IH) : rn (d + 1) 250 [iR (some l0)] h = lp d 250 (999999 + 1) 0 [some (iR (some l0)), none, none] [] h := rn_lp rfl rfl
set_option maxRecDepth 20000 in
set_option maxHeartbeats 4000000 in
theorem e_M_goesThrough (d n : Nat) (l0 : Nat) (h : IH) :
 lp d 250 (n + 1) 0 [some (iR (some l0)), none, none] [] h =
 (xpI h l0 22 37 (-1000000) fun h1 =>
 xpI h1 l0 22 38 0 fun h2 =>
 lp d 250 n 16 [some (iR (some l0)), some (iI 0), some (iI 0)] [] h2) := rfl
set_option maxRecDepth 20000 in
set_option maxHeartbeats 4000000 in
theorem e_M_goesThrough_16 (d n : Nat) (l0 : Nat) (l1 : Int) (l2 : Int) (h : IH) :
 lp d 250 (n + 1) 16 [some (iR (some l0)), some (iI l1), some (iI l2)] [] h =
 (xck h l0 22 <|
 kI (rn d 160 [iR (some l0)] h) fun x2 h1 =>
 (if l2 < x2 then
 xgR h1 l0 22 33 fun x3 =>
 xB x3 fun a5 =>
 xsI h1 a5 l2 (-1) fun h4 =>
 lp d 250 n 16 [some (iR (some l0)), some (iI l1), some (iI (wr (l2 + 1)))] [] h4
 else
 lp d 250 n 37 [some (iR (some l0)), some (iI l1), none] [] h1)) := rfl
set_option maxRecDepth 20000 in
set_option maxHeartbeats 4000000 in
theorem e_M_goesThrough_37 (d n : Nat) (l0 : Nat) (l1 : Int) (h : IH) :
 lp d 250 (n + 1) 37 [some (iR (some l0)), some (iI l1), none] [] h =
 ((if l1 < 0 then
 some (o0, h)
 else
 xck h l0 22 <|
 kI (rn d 160 [iR (some l0)] h) fun x2 h1 =>
 (if l1 = x2 then
 xck h1 l0 22 <|
 kV (rn d 252 [iR (some l0)] h1) fun h3 =>
 lp d 250 n 37 [some (iR (some l0)), some (iI (wr (l1 + (-1)))), none] [] h3
 else
 xgR h1 l0 22 33 fun x4 =>
 xck h1 l0 22 <|
 kI (rn d 251 [iR (some l0), iI l1] h1) fun x6 h5 =>
 xB x4 fun a8 =>
 xsI h5 a8 l1 x6 fun h7 =>
 xgR h7 l0 22 33 fun x9 =>
 xB x9 fun a11 =>
 xaI h7 a11 l1 fun x10 =>
 (if x10 = (-1) then
 lp d 250 n 37 [some (iR (some l0)), some (iI (wr (l1 + (-1)))), none] [] h7
 else
 lp d 250 n 37 [some (iR (some l0)), some (iI (wr (l1 + 1))), none] [] h7)))) := rfl
-- TownSundaysModel.nextFor(I)I
theorem r_M_nextFor (d : Nat) (l0 : Nat) (l1 : Int) (h : IH) : rn (d + 1) 251 [iR (some l0), iI l1] h = lp d 251 (999999 + 1) 0 [some (iR (some l0)), some (iI l1), none, none, none] [] h := rn_lp rfl rfl
set_option maxRecDepth 20000 in
set_option maxHeartbeats 4000000 in
theorem e_M_nextFor (d n : Nat) (l0 : Nat) (l1 : Int) (h : IH) :
 lp d 251 (n + 1) 0 [some (iR (some l0)), some (iI l1), none, none, none] [] h =
 (xgR h l0 22 33 fun x1 =>
 xB x1 fun a3 =>
 xaI h a3 l1 fun x2 =>
 lp d 251 n 9 [some (iR (some l0)), some (iI l1), some (iI (wr (x2 + 1))), none, none] [] h) := rfl
set_option maxRecDepth 20000 in
set_option maxHeartbeats 4000000 in
theorem e_M_nextFor_9 (d n : Nat) (l0 : Nat) (l1 : Int) (l2 : Int) (h : IH) :
 lp d 251 (n + 1) 9 [some (iR (some l0)), some (iI l1), some (iI l2), none, none] [] h =
 (xck h l0 22 <|
 kI (rn d 160 [iR (some l0)] h) fun x2 h1 =>
 (if l2 < x2 then
 xgR h1 l0 22 36 fun x3 =>
 kI (rn d 154 [iI l1, iI l2] h1) fun x5 h4 =>
 xB x3 fun a7 =>
 xaB h4 a7 x5 fun x6 =>
 lp d 251 n 31 [some (iR (some l0)), some (iI l1), some (iI l2), some (iI x6), some (iI 0)] [] h4
 else
 some (oI (-1), h1))) := rfl
set_option maxRecDepth 20000 in
set_option maxHeartbeats 4000000 in
theorem e_M_nextFor_31 (d n : Nat) (l0 : Nat) (l1 : Int) (l2 : Int) (l3 : Int) (l4 : Int) (h : IH) :
 lp d 251 (n + 1) 31 [some (iR (some l0)), some (iI l1), some (iI l2), some (iI l3), some (iI l4)] [] h =
 ((if l4 < l1 then
 (if l3 = 0 then
 lp d 251 n 31 [some (iR (some l0)), some (iI l1), some (iI l2), some (iI 0), some (iI (wr (l4 + 1)))] [] h
 else
 xgR h l0 22 33 fun x1 =>
 xB x1 fun a3 =>
 xaI h a3 l4 fun x2 =>
 (if x2 = l2 then
 lp d 251 n 31 [some (iR (some l0)), some (iI l1), some (iI l2), some (iI 0), some (iI (wr (l4 + 1)))] [] h
 else
 lp d 251 n 31 [some (iR (some l0)), some (iI l1), some (iI l2), some (iI 1), some (iI (wr (l4 + 1)))] [] h))
 else
 (if l3 = 0 then
 lp d 251 n 9 [some (iR (some l0)), some (iI l1), some (iI (wr (l2 + 1))), none, none] [] h
 else
 some (oI l2, h)))) := rfl
-- TownSundaysModel.weighsRow()V
theorem r_M_weighsRow (d : Nat) (l0 : Nat) (h : IH) : rn (d + 1) 252 [iR (some l0)] h = lp d 252 (999999 + 1) 0 [some (iR (some l0)), none, none] [] h := rn_lp rfl rfl
set_option maxRecDepth 20000 in
set_option maxHeartbeats 4000000 in
theorem e_M_weighsRow (d n : Nat) (l0 : Nat) (h : IH) :
 lp d 252 (n + 1) 0 [some (iR (some l0)), none, none] [] h =
 (lp d 252 n 4 [some (iR (some l0)), some (iI 0), some (iI 0)] [] h) := rfl
set_option maxRecDepth 20000 in
set_option maxHeartbeats 4000000 in
theorem e_M_weighsRow_4 (d n : Nat) (l0 : Nat) (l1 : Int) (l2 : Int) (h : IH) :
 lp d 252 (n + 1) 4 [some (iR (some l0)), some (iI l1), some (iI l2)] [] h =
 (xck h l0 22 <|
 kI (rn d 160 [iR (some l0)] h) fun x2 h1 =>
 (if l2 < x2 then
 xgR h1 l0 22 35 fun x3 =>
 xgR h1 l0 22 33 fun x4 =>
 xB x4 fun a6 =>
 xaI h1 a6 l2 fun x5 =>
 kI (rn d 154 [iI l2, iI x5] h1) fun x8 h7 =>
 xB x3 fun a10 =>
 xaI h7 a10 x8 fun x9 =>
 lp d 252 n 4 [some (iR (some l0)), some (iI (wr (l1 + x9))), some (iI (wr (l2 + 1)))] [] h7
 else
 xgI h1 l0 22 38 fun x11 =>
 xpI h1 l0 22 38 (wr (x11 + 1)) fun h12 =>
 xgI h12 l0 22 37 fun x13 =>
 (if l1 ≤ x13 then
 some (o0, h12)
 else
 xpI h12 l0 22 37 l1 fun h14 =>
 lp d 252 n 62 [some (iR (some l0)), none, some (iI 0)] [] h14))) := rfl
set_option maxRecDepth 20000 in
set_option maxHeartbeats 4000000 in
theorem e_M_weighsRow_62 (d n : Nat) (l0 : Nat) (l2 : Int) (h : IH) :
 lp d 252 (n + 1) 62 [some (iR (some l0)), none, some (iI l2)] [] h =
 (xck h l0 22 <|
 kI (rn d 160 [iR (some l0)] h) fun x2 h1 =>
 (if l2 < x2 then
 xgR h1 l0 22 34 fun x3 =>
 xgR h1 l0 22 33 fun x4 =>
 xB x4 fun a6 =>
 xaI h1 a6 l2 fun x5 =>
 xB x3 fun a8 =>
 xsI h1 a8 l2 x5 fun h7 =>
 lp d 252 n 62 [some (iR (some l0)), none, some (iI (wr (l2 + 1)))] [] h7
 else
 some (o0, h1))) := rfl
-- TownSundaysModel.mostLiked(I)I
theorem r_M_mostLiked (d : Nat) (l0 : Nat) (l1 : Int) (h : IH) : rn (d + 1) 253 [iR (some l0), iI l1] h = lp d 253 (999999 + 1) 0 [some (iR (some l0)), some (iI l1)] [] h := rn_lp rfl rfl
set_option maxRecDepth 20000 in
set_option maxHeartbeats 4000000 in
theorem e_M_mostLiked (d n : Nat) (l0 : Nat) (l1 : Int) (h : IH) :
 lp d 253 (n + 1) 0 [some (iR (some l0)), some (iI l1)] [] h =
 ((if l1 = (-1) then
 xck h l0 22 <|
 kV (rn d 249 [iR (some l0), iI 0] h) fun h1 =>
 xck h1 l0 22 <|
 kV (rn d 250 [iR (some l0)] h1) fun h2 =>
 (if l1 = (-1) then
 xgI h2 l0 22 37 fun x3 =>
 some (oI x3, h2)
 else
 xgR h2 l0 22 34 fun x4 =>
 xB x4 fun a6 =>
 xaI h2 a6 l1 fun x5 =>
 some (oI x5, h2))
 else
 xck h l0 22 <|
 kI (rn d 161 [iR (some l0), iI l1] h) fun x8 h7 =>
 (if x8 = 0 then
 some (oI (-1), h7)
 else
 xck h7 l0 22 <|
 kV (rn d 249 [iR (some l0), iI 0] h7) fun h9 =>
 xck h9 l0 22 <|
 kV (rn d 250 [iR (some l0)] h9) fun h10 =>
 (if l1 = (-1) then
 xgI h10 l0 22 37 fun x11 =>
 some (oI x11, h10)
 else
 xgR h10 l0 22 34 fun x12 =>
 xB x12 fun a14 =>
 xaI h10 a14 l1 fun x13 =>
 some (oI x13, h10))))) := rfl
-- TownSundaysModel.anew(I)I
theorem r_M_anew (d : Nat) (l0 : Nat) (l1 : Int) (h : IH) : rn (d + 1) 254 [iR (some l0), iI l1] h = lp d 254 (999999 + 1) 0 [some (iR (some l0)), some (iI l1)] [] h := rn_lp rfl rfl
set_option maxRecDepth 20000 in
set_option maxHeartbeats 4000000 in
theorem e_M_anew (d n : Nat) (l0 : Nat) (l1 : Int) (h : IH) :
 lp d 254 (n + 1) 0 [some (iR (some l0)), some (iI l1)] [] h =
 ((if l1 = (-1) then
 xck h l0 22 <|
 kV (rn d 249 [iR (some l0), iI 1] h) fun h1 =>
 xck h1 l0 22 <|
 kV (rn d 250 [iR (some l0)] h1) fun h2 =>
 xgI h2 l0 22 38 fun x3 =>
 (if x3 = 0 then
 some (oI (-1), h2)
 else
 (if l1 = (-1) then
 xgI h2 l0 22 37 fun x4 =>
 some (oI (wr (-x4)), h2)
 else
 xgR h2 l0 22 34 fun x5 =>
 xB x5 fun a7 =>
 xaI h2 a7 l1 fun x6 =>
 some (oI x6, h2)))
 else
 xck h l0 22 <|
 kI (rn d 161 [iR (some l0), iI l1] h) fun x9 h8 =>
 (if x9 = 0 then
 some (oI (-1), h8)
 else
 xck h8 l0 22 <|
 kV (rn d 249 [iR (some l0), iI 1] h8) fun h10 =>
 xck h10 l0 22 <|
 kV (rn d 250 [iR (some l0)] h10) fun h11 =>
 xgI h11 l0 22 38 fun x12 =>
 (if x12 = 0 then
 some (oI (-1), h11)
 else
 (if l1 = (-1) then
 xgI h11 l0 22 37 fun x13 =>
 some (oI (wr (-x13)), h11)
 else
 xgR h11 l0 22 34 fun x14 =>
 xB x14 fun a16 =>
 xaI h11 a16 l1 fun x15 =>
 some (oI x15, h11)))))) := rfl
-- TownSundaysModel.newOnes()I
theorem r_M_newOnes (d : Nat) (l0 : Nat) (h : IH) : rn (d + 1) 255 [iR (some l0)] h = lp d 255 (999999 + 1) 0 [some (iR (some l0))] [] h := rn_lp rfl rfl
set_option maxRecDepth 20000 in
set_option maxHeartbeats 4000000 in
theorem e_M_newOnes (d n : Nat) (l0 : Nat) (h : IH) :
 lp d 255 (n + 1) 0 [some (iR (some l0))] [] h =
 (xck h l0 22 <|
 kV (rn d 249 [iR (some l0), iI 1] h) fun h1 =>
 xck h1 l0 22 <|
 kV (rn d 250 [iR (some l0)] h1) fun h2 =>
 xgI h2 l0 22 38 fun x3 =>
 some (oI x3, h2)) := rfl
-- TownSundaysModel.numberOf()I
theorem r_M_numberOf (d : Nat) (l0 : Nat) (h : IH) : rn (d + 1) 256 [iR (some l0)] h = lp d 256 (999999 + 1) 0 [some (iR (some l0)), none, none, none, none] [] h := rn_lp rfl rfl
set_option maxRecDepth 20000 in
set_option maxHeartbeats 4000000 in
theorem e_M_numberOf (d n : Nat) (l0 : Nat) (h : IH) :
 lp d 256 (n + 1) 0 [some (iR (some l0)), none, none, none, none] [] h =
 (lp d 256 n 4 [some (iR (some l0)), some (iI 0), some (iI 0), none, none] [] h) := rfl
set_option maxRecDepth 20000 in
set_option maxHeartbeats 4000000 in
theorem e_M_numberOf_4 (d n : Nat) (l0 : Nat) (l1 : Int) (l2 : Int) (h : IH) :
 lp d 256 (n + 1) 4 [some (iR (some l0)), some (iI l1), some (iI l2), none, none] [] h =
 (xck h l0 22 <|
 kI (rn d 160 [iR (some l0)] h) fun x2 h1 =>
 (if l2 < x2 then
 lp d 256 n 19 [some (iR (some l0)), some (iI l1), some (iI l2), some (iI 0), some (iI (wr (l2 + 1)))] [] h1
 else
 some (oI l1, h1))) := rfl
set_option maxRecDepth 20000 in
set_option maxHeartbeats 4000000 in
theorem e_M_numberOf_19 (d n : Nat) (l0 : Nat) (l1 : Int) (l2 : Int) (l3 : Int) (l4 : Int) (h : IH) :
 lp d 256 (n + 1) 19 [some (iR (some l0)), some (iI l1), some (iI l2), some (iI l3), some (iI l4)] [] h =
 (xck h l0 22 <|
 kI (rn d 160 [iR (some l0)] h) fun x2 h1 =>
 (if l4 < x2 then
 xgR h1 l0 22 42 fun x3 =>
 xB x3 fun a5 =>
 xaI h1 a5 l4 fun x4 =>
 xgR h1 l0 22 42 fun x6 =>
 xB x6 fun a8 =>
 xaI h1 a8 l2 fun x7 =>
 (if x4 < x7 then
 lp d 256 n 19 [some (iR (some l0)), some (iI l1), some (iI l2), some (iI (wr (l3 + 1))), some (iI (wr (l4 + 1)))] [] h1
 else
 lp d 256 n 19 [some (iR (some l0)), some (iI l1), some (iI l2), some (iI (wr (l3 + 0))), some (iI (wr (l4 + 1)))] [] h1)
 else
 xck h1 l0 22 <|
 kI (rn d 160 [iR (some l0)] h1) fun x10 h9 =>
 lp d 256 n 4 [some (iR (some l0)), some (iI (wr ((wr (l1 * (wr (x10 - l2)))) + l3))), some (iI (wr (l2 + 1))), none, none] [] h9)) := rfl
-- TownSundaysModel.laysOrder(I)V
theorem r_M_laysOrder (d : Nat) (l0 : Nat) (l1 : Int) (h : IH) : rn (d + 1) 257 [iR (some l0), iI l1] h = lp d 257 (999999 + 1) 0 [some (iR (some l0)), some (iI l1), none, none, none, none] [] h := rn_lp rfl rfl
set_option maxRecDepth 20000 in
set_option maxHeartbeats 4000000 in
theorem e_M_laysOrder (d n : Nat) (l0 : Nat) (l1 : Int) (h : IH) :
 lp d 257 (n + 1) 0 [some (iR (some l0)), some (iI l1), none, none, none, none] [] h =
 (xck h l0 22 <|
 kI (rn d 160 [iR (some l0)] h) fun x2 h1 =>
 lp d 257 n 9 [some (iR (some l0)), none, some (iI l1), some (iI (wr (x2 - 1))), none, none] [] h1) := rfl
set_option maxRecDepth 20000 in
set_option maxHeartbeats 4000000 in
theorem e_M_laysOrder_9 (d n : Nat) (l0 : Nat) (l2 : Int) (l3 : Int) (h : IH) :
 lp d 257 (n + 1) 9 [some (iR (some l0)), none, some (iI l2), some (iI l3), none, none] [] h =
 ((if l3 < 0 then
 some (o0, h)
 else
 xck h l0 22 <|
 kI (rn d 160 [iR (some l0)] h) fun x2 h1 =>
 xgR h1 l0 22 42 fun x3 =>
 xmI l2 (wr (x2 - l3)) fun x4 =>
 xB x3 fun a6 =>
 xsI h1 a6 l3 x4 fun h5 =>
 xdI l2 (wr (x2 - l3)) fun x7 =>
 lp d 257 n 41 [some (iR (some l0)), none, some (iI x7), some (iI l3), none, some (iI (wr (l3 + 1)))] [] h5)) := rfl
set_option maxRecDepth 20000 in
set_option maxHeartbeats 4000000 in
theorem e_M_laysOrder_41 (d n : Nat) (l0 : Nat) (l2 : Int) (l3 : Int) (l5 : Int) (h : IH) :
 lp d 257 (n + 1) 41 [some (iR (some l0)), none, some (iI l2), some (iI l3), none, some (iI l5)] [] h =
 (xck h l0 22 <|
 kI (rn d 160 [iR (some l0)] h) fun x2 h1 =>
 (if l5 < x2 then
 xgR h1 l0 22 42 fun x3 =>
 xB x3 fun a5 =>
 xaI h1 a5 l5 fun x4 =>
 xgR h1 l0 22 42 fun x6 =>
 xB x6 fun a8 =>
 xaI h1 a8 l5 fun x7 =>
 xgR h1 l0 22 42 fun x9 =>
 xB x9 fun a11 =>
 xaI h1 a11 l3 fun x10 =>
 (if x7 < x10 then
 xB x3 fun a13 =>
 xsI h1 a13 l5 (wr (x4 + 0)) fun h12 =>
 lp d 257 n 41 [some (iR (some l0)), none, some (iI l2), some (iI l3), none, some (iI (wr (l5 + 1)))] [] h12
 else
 xB x3 fun a15 =>
 xsI h1 a15 l5 (wr (x4 + 1)) fun h14 =>
 lp d 257 n 41 [some (iR (some l0)), none, some (iI l2), some (iI l3), none, some (iI (wr (l5 + 1)))] [] h14)
 else
 lp d 257 n 9 [some (iR (some l0)), none, some (iI l2), some (iI (wr (l3 + (-1)))), none, none] [] h1)) := rfl
-- TownSundaysModel.laysSends()V
theorem r_M_laysSends (d : Nat) (l0 : Nat) (h : IH) : rn (d + 1) 258 [iR (some l0)] h = lp d 258 (999999 + 1) 0 [some (iR (some l0)), none, none, none] [] h := rn_lp rfl rfl
set_option maxRecDepth 20000 in
set_option maxHeartbeats 4000000 in
theorem e_M_laysSends (d n : Nat) (l0 : Nat) (h : IH) :
 lp d 258 (n + 1) 0 [some (iR (some l0)), none, none, none] [] h =
 (lp d 258 n 2 [some (iR (some l0)), some (iI 0), none, none] [] h) := rfl
set_option maxRecDepth 20000 in
set_option maxHeartbeats 4000000 in
theorem e_M_laysSends_2 (d n : Nat) (l0 : Nat) (l1 : Int) (h : IH) :
 lp d 258 (n + 1) 2 [some (iR (some l0)), some (iI l1), none, none] [] h =
 (xck h l0 22 <|
 kI (rn d 160 [iR (some l0)] h) fun x2 h1 =>
 (if l1 < x2 then
 lp d 258 n 12 [some (iR (some l0)), some (iI l1), some (iI 0), none] [] h1
 else
 some (o0, h1))) := rfl
set_option maxRecDepth 20000 in
set_option maxHeartbeats 4000000 in
theorem e_M_laysSends_12 (d n : Nat) (l0 : Nat) (l1 : Int) (l2 : Int) (h : IH) :
 lp d 258 (n + 1) 12 [some (iR (some l0)), some (iI l1), some (iI l2), none] [] h =
 (xck h l0 22 <|
 kI (rn d 160 [iR (some l0)] h) fun x2 h1 =>
 (if l2 < x2 then
 lp d 258 n 22 [some (iR (some l0)), some (iI l1), some (iI l2), some (iI 0)] [] h1
 else
 lp d 258 n 2 [some (iR (some l0)), some (iI (wr (l1 + 1))), none, none] [] h1)) := rfl
set_option maxRecDepth 20000 in
set_option maxHeartbeats 4000000 in
theorem e_M_laysSends_22 (d n : Nat) (l0 : Nat) (l1 : Int) (l2 : Int) (l3 : Int) (h : IH) :
 lp d 258 (n + 1) 22 [some (iR (some l0)), some (iI l1), some (iI l2), some (iI l3)] [] h =
 (xck h l0 22 <|
 kI (rn d 160 [iR (some l0)] h) fun x2 h1 =>
 (if l3 < x2 then
 xgR h1 l0 22 43 fun x3 =>
 kI (rn d 154 [iI l2, iI l3] h1) fun x5 h4 =>
 (if l2 = l3 then
 xB x3 fun a7 =>
 xsB h4 a7 (wr ((wr (49 * l1)) + x5)) 0 fun h6 =>
 lp d 258 n 22 [some (iR (some l0)), some (iI l1), some (iI l2), some (iI (wr (l3 + 1)))] [] h6
 else
 xck h4 l0 22 <|
 kI (rn d 224 [iR (some l0), iI l1, iI l2, iI l3] h4) fun x9 h8 =>
 (if x9 = 0 then
 xB x3 fun a11 =>
 xsB h8 a11 (wr ((wr (49 * l1)) + x5)) 0 fun h10 =>
 lp d 258 n 22 [some (iR (some l0)), some (iI l1), some (iI l2), some (iI (wr (l3 + 1)))] [] h10
 else
 xB x3 fun a13 =>
 xsB h8 a13 (wr ((wr (49 * l1)) + x5)) 1 fun h12 =>
 lp d 258 n 22 [some (iR (some l0)), some (iI l1), some (iI l2), some (iI (wr (l3 + 1)))] [] h12))
 else
 lp d 258 n 12 [some (iR (some l0)), some (iI l1), some (iI (wr (l2 + 1))), none] [] h1)) := rfl
-- TownSundaysModel.canExchange(II)Z
theorem r_M_canExchange (d : Nat) (l0 : Nat) (l1 : Int) (l2 : Int) (h : IH) : rn (d + 1) 259 [iR (some l0), iI l1, iI l2] h = lp d 259 (999999 + 1) 0 [some (iR (some l0)), some (iI l1), some (iI l2)] [] h := rn_lp rfl rfl
set_option maxRecDepth 20000 in
set_option maxHeartbeats 4000000 in
theorem e_M_canExchange (d n : Nat) (l0 : Nat) (l1 : Int) (l2 : Int) (h : IH) :
 lp d 259 (n + 1) 0 [some (iR (some l0)), some (iI l1), some (iI l2)] [] h =
 (xgR h l0 22 43 fun x1 =>
 xgR h l0 22 42 fun x2 =>
 xB x2 fun a4 =>
 xaI h a4 l1 fun x3 =>
 kI (rn d 154 [iI l1, iI l2] h) fun x6 h5 =>
 xB x1 fun a8 =>
 xaB h5 a8 (wr ((wr (49 * x3)) + x6)) fun x7 =>
 (if x7 = 0 then
 xZ 0 h5
 else
 xgR h5 l0 22 43 fun x9 =>
 xgR h5 l0 22 42 fun x10 =>
 xB x10 fun a12 =>
 xaI h5 a12 l2 fun x11 =>
 kI (rn d 154 [iI l2, iI l1] h5) fun x14 h13 =>
 xB x9 fun a16 =>
 xaB h13 a16 (wr ((wr (49 * x11)) + x14)) fun x15 =>
 (if x15 = 0 then
 xZ 0 h13
 else
 xZ 1 h13))) := rfl
-- TownSundaysModel.exchanges(II)V
theorem r_M_exchanges (d : Nat) (l0 : Nat) (l1 : Int) (l2 : Int) (h : IH) : rn (d + 1) 260 [iR (some l0), iI l1, iI l2] h = lp d 260 (999999 + 1) 0 [some (iR (some l0)), some (iI l1), some (iI l2), none] [] h := rn_lp rfl rfl
set_option maxRecDepth 20000 in
set_option maxHeartbeats 4000000 in
theorem e_M_exchanges (d n : Nat) (l0 : Nat) (l1 : Int) (l2 : Int) (h : IH) :
 lp d 260 (n + 1) 0 [some (iR (some l0)), some (iI l1), some (iI l2), none] [] h =
 (xgR h l0 22 42 fun x1 =>
 xB x1 fun a3 =>
 xaI h a3 l1 fun x2 =>
 xgR h l0 22 42 fun x4 =>
 xgR h l0 22 42 fun x5 =>
 xB x5 fun a7 =>
 xaI h a7 l2 fun x6 =>
 xB x4 fun a9 =>
 xsI h a9 l1 x6 fun h8 =>
 xgR h8 l0 22 42 fun x10 =>
 xB x10 fun a12 =>
 xsI h8 a12 l2 x2 fun h11 =>
 some (o0, h11)) := rfl
-- TownSundaysModel.comesHome()Z
theorem r_M_comesHome (d : Nat) (l0 : Nat) (h : IH) : rn (d + 1) 261 [iR (some l0)] h = lp d 261 (999999 + 1) 0 [some (iR (some l0)), none, none] [] h := rn_lp rfl rfl
set_option maxRecDepth 20000 in
set_option maxHeartbeats 4000000 in
theorem e_M_comesHome (d n : Nat) (l0 : Nat) (h : IH) :
 lp d 261 (n + 1) 0 [some (iR (some l0)), none, none] [] h =
 (xck h l0 22 <|
 kV (rn d 258 [iR (some l0)] h) fun h1 =>
 lp d 261 n 6 [some (iR (some l0)), some (iI 0), none] [] h1) := rfl
set_option maxRecDepth 20000 in
set_option maxHeartbeats 4000000 in
theorem e_M_comesHome_6 (d n : Nat) (l0 : Nat) (l1 : Int) (h : IH) :
 lp d 261 (n + 1) 6 [some (iR (some l0)), some (iI l1), none] [] h =
 ((if l1 < 5040 then
 xgR h l0 22 39 fun x1 =>
 xB x1 fun a3 =>
 xsI h a3 l1 (-1) fun h2 =>
 lp d 261 n 6 [some (iR (some l0)), some (iI (wr (l1 + 1))), none] [] h2
 else
 lp d 261 n 28 [some (iR (some l0)), some (iI 0), none] [] h)) := rfl
set_option maxRecDepth 20000 in
set_option maxHeartbeats 4000000 in
theorem e_M_comesHome_28 (d n : Nat) (l0 : Nat) (l1 : Int) (h : IH) :
 lp d 261 (n + 1) 28 [some (iR (some l0)), some (iI l1), none] [] h =
 (xck h l0 22 <|
 kI (rn d 160 [iR (some l0)] h) fun x2 h1 =>
 (if l1 < x2 then
 xgR h1 l0 22 42 fun x3 =>
 xgR h1 l0 22 2 fun x4 =>
 xB x4 fun a6 =>
 xaI h1 a6 (wr (0 + l1)) fun x5 =>
 xB x3 fun a8 =>
 xsI h1 a8 l1 x5 fun h7 =>
 lp d 261 n 28 [some (iR (some l0)), some (iI (wr (l1 + 1))), none] [] h7
 else
 xgR h1 l0 22 41 fun x9 =>
 xck h1 l0 22 <|
 kI (rn d 256 [iR (some l0)] h1) fun x11 h10 =>
 xB x9 fun a13 =>
 xsI h10 a13 0 x11 fun h12 =>
 xgR h12 l0 22 39 fun x14 =>
 xgR h12 l0 22 41 fun x15 =>
 xB x15 fun a17 =>
 xaI h12 a17 0 fun x16 =>
 xB x14 fun a19 =>
 xsI h12 a19 x16 49 fun h18 =>
 lp d 261 n 83 [some (iR (some l0)), some (iI 0), some (iI 1)] [] h18)) := rfl
set_option maxRecDepth 20000 in
set_option maxHeartbeats 4000000 in
theorem e_M_comesHome_83 (d n : Nat) (l0 : Nat) (l1 : Int) (l2 : Int) (h : IH) :
 lp d 261 (n + 1) 83 [some (iR (some l0)), some (iI l1), some (iI l2)] [] h =
 ((if l1 < l2 then
 xgR h l0 22 39 fun x1 =>
 xB x1 fun a3 =>
 xaI h a3 0 fun x2 =>
 (if x2 = (-1) then
 xgR h l0 22 41 fun x4 =>
 xB x4 fun a6 =>
 xaI h a6 l1 fun x5 =>
 xck h l0 22 <|
 kI (rn d 262 [iR (some l0), iI x5, iI l2] h) fun x8 h7 =>
 lp d 261 n 83 [some (iR (some l0)), some (iI (wr (l1 + 1))), some (iI x8)] [] h7
 else
 xgR h l0 22 39 fun x9 =>
 xB x9 fun a11 =>
 xaI h a11 0 fun x10 =>
 (if x10 = (-1) then
 xZ 0 h
 else
 xZ 1 h))
 else
 xgR h l0 22 39 fun x12 =>
 xB x12 fun a14 =>
 xaI h a14 0 fun x13 =>
 (if x13 = (-1) then
 xZ 0 h
 else
 xZ 1 h))) := rfl
-- TownSundaysModel.goesOn(II)I
theorem r_M_goesOn (d : Nat) (l0 : Nat) (l1 : Int) (l2 : Int) (h : IH) : rn (d + 1) 262 [iR (some l0), iI l1, iI l2] h = lp d 262 (999999 + 1) 0 [some (iR (some l0)), some (iI l1), some (iI l2), none, none, none, none] [] h := rn_lp rfl rfl
set_option maxRecDepth 20000 in
set_option maxHeartbeats 4000000 in
theorem e_M_goesOn (d n : Nat) (l0 : Nat) (l1 : Int) (l2 : Int) (h : IH) :
 lp d 262 (n + 1) 0 [some (iR (some l0)), some (iI l1), some (iI l2), none, none, none, none] [] h =
 (xck h l0 22 <|
 kV (rn d 257 [iR (some l0), iI l1] h) fun h1 =>
 lp d 262 n 10 [some (iR (some l0)), some (iI l1), none, some (iI l2), some (iI 0), none, none] [] h1) := rfl
set_option maxRecDepth 20000 in
set_option maxHeartbeats 4000000 in
theorem e_M_goesOn_10 (d n : Nat) (l0 : Nat) (l1 : Int) (l3 : Int) (l4 : Int) (h : IH) :
 lp d 262 (n + 1) 10 [some (iR (some l0)), some (iI l1), none, some (iI l3), some (iI l4), none, none] [] h =
 (xck h l0 22 <|
 kI (rn d 160 [iR (some l0)] h) fun x2 h1 =>
 (if l4 < x2 then
 lp d 262 n 25 [some (iR (some l0)), some (iI l1), none, some (iI l3), some (iI l4), some (iI (wr (l4 + 1))), none] [] h1
 else
 some (oI l3, h1))) := rfl
set_option maxRecDepth 20000 in
set_option maxHeartbeats 4000000 in
theorem e_M_goesOn_25 (d n : Nat) (l0 : Nat) (l1 : Int) (l3 : Int) (l4 : Int) (l5 : Int) (h : IH) :
 lp d 262 (n + 1) 25 [some (iR (some l0)), some (iI l1), none, some (iI l3), some (iI l4), some (iI l5), none] [] h =
 (xck h l0 22 <|
 kI (rn d 160 [iR (some l0)] h) fun x2 h1 =>
 (if l5 < x2 then
 xck h1 l0 22 <|
 kI (rn d 259 [iR (some l0), iI l4, iI l5] h1) fun x4 h3 =>
 (if x4 = 0 then
 lp d 262 n 25 [some (iR (some l0)), some (iI l1), none, some (iI l3), some (iI l4), some (iI (wr (l5 + 1))), none] [] h3
 else
 xck h3 l0 22 <|
 kV (rn d 260 [iR (some l0), iI l4, iI l5] h3) fun h5 =>
 xck h5 l0 22 <|
 kI (rn d 256 [iR (some l0)] h5) fun x7 h6 =>
 xck h6 l0 22 <|
 kV (rn d 260 [iR (some l0), iI l4, iI l5] h6) fun h8 =>
 xgR h8 l0 22 39 fun x9 =>
 xB x9 fun a11 =>
 xaI h8 a11 x7 fun x10 =>
 (if x10 = (-1) then
 xgR h8 l0 22 39 fun x12 =>
 kI (rn d 154 [iI l4, iI l5] h8) fun x14 h13 =>
 xB x12 fun a16 =>
 xsI h13 a16 x7 x14 fun h15 =>
 xgR h15 l0 22 40 fun x17 =>
 xB x17 fun a19 =>
 xsI h15 a19 x7 l1 fun h18 =>
 xgR h18 l0 22 41 fun x20 =>
 xB x20 fun a22 =>
 xsI h18 a22 l3 x7 fun h21 =>
 lp d 262 n 25 [some (iR (some l0)), some (iI l1), none, some (iI (wr (l3 + 1))), some (iI l4), some (iI (wr (l5 + 1))), none] [] h21
 else
 lp d 262 n 25 [some (iR (some l0)), some (iI l1), none, some (iI l3), some (iI l4), some (iI (wr (l5 + 1))), none] [] h8))
 else
 lp d 262 n 10 [some (iR (some l0)), some (iI l1), none, some (iI l3), some (iI (wr (l4 + 1))), none, none] [] h1)) := rfl
-- TownSundaysModel.home(I)I
theorem r_M_home (d : Nat) (l0 : Nat) (l1 : Int) (h : IH) : rn (d + 1) 263 [iR (some l0), iI l1] h = lp d 263 (999999 + 1) 0 [some (iR (some l0)), some (iI l1), none, none, none] [] h := rn_lp rfl rfl
set_option maxRecDepth 20000 in
set_option maxHeartbeats 4000000 in
theorem e_M_home (d n : Nat) (l0 : Nat) (l1 : Int) (h : IH) :
 lp d 263 (n + 1) 0 [some (iR (some l0)), some (iI l1), none, none, none] [] h =
 ((if l1 < (-1) then
 some (oI (-1), h)
 else
 xck h l0 22 <|
 kI (rn d 261 [iR (some l0)] h) fun x2 h1 =>
 (if x2 = 0 then
 some (oI (-1), h1)
 else
 lp d 263 n 18 [some (iR (some l0)), some (iI l1), some (iI 0), some (iI 0), none] [] h1))) := rfl
set_option maxRecDepth 20000 in
set_option maxHeartbeats 4000000 in
theorem e_M_home_18 (d n : Nat) (l0 : Nat) (l1 : Int) (l2 : Int) (l3 : Int) (h : IH) :
 lp d 263 (n + 1) 18 [some (iR (some l0)), some (iI l1), some (iI l2), some (iI l3), none] [] h =
 (xgR h l0 22 39 fun x1 =>
 xB x1 fun a3 =>
 xaI h a3 l3 fun x2 =>
 (if x2 = 49 then
 (if l1 = (-1) then
 (if l1 = (-1) then
 some (oI l2, h)
 else
 some (oI (-1), h))
 else
 (if l1 < l2 then
 lp d 263 n 70 [some (iR (some l0)), some (iI l1), none, some (iI 0), some (iI (wr (l2 - 1)))] [] h
 else
 (if l1 = (-1) then
 some (oI l2, h)
 else
 some (oI (-1), h))))
 else
 xgR h l0 22 40 fun x4 =>
 xB x4 fun a6 =>
 xaI h a6 l3 fun x5 =>
 lp d 263 n 18 [some (iR (some l0)), some (iI l1), some (iI (wr (l2 + 1))), some (iI x5), none] [] h)) := rfl
set_option maxRecDepth 20000 in
set_option maxHeartbeats 4000000 in
theorem e_M_home_70 (d n : Nat) (l0 : Nat) (l1 : Int) (l3 : Int) (l4 : Int) (h : IH) :
 lp d 263 (n + 1) 70 [some (iR (some l0)), some (iI l1), none, some (iI l3), some (iI l4)] [] h =
 ((if l4 ≤ l1 then
 xgR h l0 22 39 fun x1 =>
 xB x1 fun a3 =>
 xaI h a3 l3 fun x2 =>
 some (oI x2, h)
 else
 xgR h l0 22 40 fun x4 =>
 xB x4 fun a6 =>
 xaI h a6 l3 fun x5 =>
 lp d 263 n 70 [some (iR (some l0)), some (iI l1), none, some (iI x5), some (iI (wr (l4 + (-1))))] [] h)) := rfl
-- TownSundaysModel.askedBy(II)I
theorem r_M_askedBy (d : Nat) (l0 : Nat) (l1 : Int) (l2 : Int) (h : IH) : rn (d + 1) 264 [iR (some l0), iI l1, iI l2] h = lp d 264 (999999 + 1) 0 [some (iR (some l0)), some (iI l1), some (iI l2), none, none, none] [] h := rn_lp rfl rfl
set_option maxRecDepth 20000 in
set_option maxHeartbeats 4000000 in
theorem e_M_askedBy (d n : Nat) (l0 : Nat) (l1 : Int) (l2 : Int) (h : IH) :
 lp d 264 (n + 1) 0 [some (iR (some l0)), some (iI l1), some (iI l2), none, none, none] [] h =
 (lp d 264 n 8 [some (iR (some l0)), some (iI l1), some (iI l2), some (iI (-1)), some (iI (-1)), some (iI 0)] [] h) := rfl
set_option maxRecDepth 20000 in
set_option maxHeartbeats 4000000 in
theorem e_M_askedBy_8 (d n : Nat) (l0 : Nat) (l1 : Int) (l2 : Int) (l3 : Int) (l4 : Int) (l5 : Int) (h : IH) :
 lp d 264 (n + 1) 8 [some (iR (some l0)), some (iI l1), some (iI l2), some (iI l3), some (iI l4), some (iI l5)] [] h =
 (xck h l0 22 <|
 kI (rn d 160 [iR (some l0)] h) fun x2 h1 =>
 (if l5 < x2 then
 xck h1 l0 22 <|
 kI (rn d 163 [iR (some l0), iI l5] h1) fun x4 h3 =>
 kI (rn d 153 [iI l2, iI x4] h3) fun x6 h5 =>
 (if x6 = 0 then
 xgR h5 l0 22 36 fun x7 =>
 kI (rn d 154 [iI l1, iI l5] h5) fun x9 h8 =>
 xB x7 fun a11 =>
 xaB h8 a11 x9 fun x10 =>
 (if x10 = 0 then
 lp d 264 n 8 [some (iR (some l0)), some (iI l1), some (iI l2), some (iI l3), some (iI l4), some (iI (wr (l5 + 1)))] [] h8
 else
 xgR h8 l0 22 35 fun x12 =>
 kI (rn d 154 [iI l1, iI l5] h8) fun x14 h13 =>
 xB x12 fun a16 =>
 xaI h13 a16 x14 fun x15 =>
 (if x15 ≤ l4 then
 lp d 264 n 8 [some (iR (some l0)), some (iI l1), some (iI l2), some (iI l3), some (iI l4), some (iI (wr (l5 + 1)))] [] h13
 else
 xgR h13 l0 22 35 fun x17 =>
 kI (rn d 154 [iI l1, iI l5] h13) fun x19 h18 =>
 xB x17 fun a21 =>
 xaI h18 a21 x19 fun x20 =>
 lp d 264 n 8 [some (iR (some l0)), some (iI l1), some (iI l2), some (iI l5), some (iI x20), some (iI (wr (l5 + 1)))] [] h18))
 else
 lp d 264 n 8 [some (iR (some l0)), some (iI l1), some (iI l2), some (iI l3), some (iI l4), some (iI (wr (l5 + 1)))] [] h5)
 else
 some (oI l3, h1))) := rfl
-- TownSundaysModel.isRound(I)Z
theorem r_M_isRound (d : Nat) (l0 : Nat) (l1 : Int) (h : IH) : rn (d + 1) 265 [iR (some l0), iI l1] h = lp d 265 (999999 + 1) 0 [some (iR (some l0)), some (iI l1), none, none] [] h := rn_lp rfl rfl
set_option maxRecDepth 20000 in
set_option maxHeartbeats 4000000 in
theorem e_M_isRound (d n : Nat) (l0 : Nat) (l1 : Int) (h : IH) :
 lp d 265 (n + 1) 0 [some (iR (some l0)), some (iI l1), none, none] [] h =
 (xgR h l0 22 44 fun x1 =>
 xB x1 fun a3 =>
 xaI h a3 l1 fun x2 =>
 xck h l0 22 <|
 kI (rn d 163 [iR (some l0), iI x2] h) fun x5 h4 =>
 lp d 265 n 13 [some (iR (some l0)), some (iI l1), some (iI x5), some (iI 0)] [] h4) := rfl
set_option maxRecDepth 20000 in
set_option maxHeartbeats 4000000 in
theorem e_M_isRound_13 (d n : Nat) (l0 : Nat) (l1 : Int) (l2 : Int) (l3 : Int) (h : IH) :
 lp d 265 (n + 1) 13 [some (iR (some l0)), some (iI l1), some (iI l2), some (iI l3)] [] h =
 (xck h l0 22 <|
 kI (rn d 160 [iR (some l0)] h) fun x2 h1 =>
 (if l3 < x2 then
 (if l2 = l1 then
 (if l2 = l1 then
 xZ 1 h1
 else
 xZ 0 h1)
 else
 xgR h1 l0 22 44 fun x3 =>
 xB x3 fun a5 =>
 xaI h1 a5 l2 fun x4 =>
 xck h1 l0 22 <|
 kI (rn d 163 [iR (some l0), iI x4] h1) fun x7 h6 =>
 lp d 265 n 13 [some (iR (some l0)), some (iI l1), some (iI x7), some (iI (wr (l3 + 1)))] [] h6)
 else
 (if l2 = l1 then
 xZ 1 h1
 else
 xZ 0 h1))) := rfl
-- TownSundaysModel.market(I)I
theorem r_M_market (d : Nat) (l0 : Nat) (l1 : Int) (h : IH) : rn (d + 1) 266 [iR (some l0), iI l1] h = lp d 266 (999999 + 1) 0 [some (iR (some l0)), some (iI l1), none, none, none] [] h := rn_lp rfl rfl
set_option maxRecDepth 20000 in
set_option maxHeartbeats 4000000 in
theorem e_M_market (d n : Nat) (l0 : Nat) (l1 : Int) (h : IH) :
 lp d 266 (n + 1) 0 [some (iR (some l0)), some (iI l1), none, none, none] [] h =
 (xck h l0 22 <|
 kI (rn d 161 [iR (some l0), iI l1] h) fun x2 h1 =>
 (if x2 = 0 then
 some (oI (-1), h1)
 else
 xck h1 l0 22 <|
 kV (rn d 249 [iR (some l0), iI 0] h1) fun h3 =>
 lp d 266 n 17 [some (iR (some l0)), some (iI l1), some (iI 0), none, none] [] h3)) := rfl
set_option maxRecDepth 20000 in
set_option maxHeartbeats 4000000 in
theorem e_M_market_17 (d n : Nat) (l0 : Nat) (l1 : Int) (l2 : Int) (h : IH) :
 lp d 266 (n + 1) 17 [some (iR (some l0)), some (iI l1), some (iI l2), none, none] [] h =
 (kI (rn d 153 [iI l2, iI l1] h) fun x2 h1 =>
 (if x2 = 0 then
 lp d 266 n 27 [some (iR (some l0)), some (iI l1), some (iI l2), some (iI 0), none] [] h1
 else
 xgR h1 l0 22 45 fun x3 =>
 xB x3 fun a5 =>
 xaI h1 a5 l1 fun x4 =>
 some (oI x4, h1))) := rfl
set_option maxRecDepth 20000 in
set_option maxHeartbeats 4000000 in
theorem e_M_market_27 (d n : Nat) (l0 : Nat) (l1 : Int) (l2 : Int) (l3 : Int) (h : IH) :
 lp d 266 (n + 1) 27 [some (iR (some l0)), some (iI l1), some (iI l2), some (iI l3), none] [] h =
 (xck h l0 22 <|
 kI (rn d 160 [iR (some l0)] h) fun x2 h1 =>
 (if l3 < x2 then
 kI (rn d 153 [iI l2, iI l3] h1) fun x4 h3 =>
 (if x4 = 0 then
 xgR h3 l0 22 44 fun x5 =>
 xck h3 l0 22 <|
 kI (rn d 264 [iR (some l0), iI l3, iI l2] h3) fun x7 h6 =>
 xB x5 fun a9 =>
 xsI h6 a9 l3 x7 fun h8 =>
 lp d 266 n 27 [some (iR (some l0)), some (iI l1), some (iI l2), some (iI (wr (l3 + 1))), none] [] h8
 else
 lp d 266 n 27 [some (iR (some l0)), some (iI l1), some (iI l2), some (iI (wr (l3 + 1))), none] [] h3)
 else
 lp d 266 n 66 [some (iR (some l0)), some (iI l1), some (iI l2), some (iI l2), some (iI 0)] [] h1)) := rfl
set_option maxRecDepth 20000 in
set_option maxHeartbeats 4000000 in
theorem e_M_market_66 (d n : Nat) (l0 : Nat) (l1 : Int) (l2 : Int) (l3 : Int) (l4 : Int) (h : IH) :
 lp d 266 (n + 1) 66 [some (iR (some l0)), some (iI l1), some (iI l2), some (iI l3), some (iI l4)] [] h =
 (xck h l0 22 <|
 kI (rn d 160 [iR (some l0)] h) fun x2 h1 =>
 (if l4 < x2 then
 kI (rn d 153 [iI l2, iI l4] h1) fun x4 h3 =>
 (if x4 = 0 then
 xck h3 l0 22 <|
 kI (rn d 265 [iR (some l0), iI l4] h3) fun x6 h5 =>
 (if x6 = 0 then
 lp d 266 n 66 [some (iR (some l0)), some (iI l1), some (iI l2), some (iI l3), some (iI (wr (l4 + 1)))] [] h5
 else
 xgR h5 l0 22 45 fun x7 =>
 xgR h5 l0 22 44 fun x8 =>
 xB x8 fun a10 =>
 xaI h5 a10 l4 fun x9 =>
 xB x7 fun a12 =>
 xsI h5 a12 l4 x9 fun h11 =>
 lp d 266 n 66 [some (iR (some l0)), some (iI l1), some (iI l2), some (iI (ior l3 (ishl 1 l4))), some (iI (wr (l4 + 1)))] [] h11)
 else
 lp d 266 n 66 [some (iR (some l0)), some (iI l1), some (iI l2), some (iI l3), some (iI (wr (l4 + 1)))] [] h3)
 else
 lp d 266 n 17 [some (iR (some l0)), some (iI l1), some (iI l3), none, none] [] h1)) := rfl
-- TownSundaysModel.isBargain(II)Z
theorem r_M_isBargain (d : Nat) (l0 : Nat) (l1 : Int) (l2 : Int) (h : IH) : rn (d + 1) 267 [iR (some l0), iI l1, iI l2] h = lp d 267 (999999 + 1) 0 [some (iR (some l0)), some (iI l1), some (iI l2)] [] h := rn_lp rfl rfl
set_option maxRecDepth 20000 in
set_option maxHeartbeats 4000000 in
theorem e_M_isBargain (d n : Nat) (l0 : Nat) (l1 : Int) (l2 : Int) (h : IH) :
 lp d 267 (n + 1) 0 [some (iR (some l0)), some (iI l1), some (iI l2)] [] h =
 (xck h l0 22 <|
 kI (rn d 230 [iR (some l0), iI l1, iI l2] h) fun x2 h1 =>
 (if x2 = 0 then
 xZ 0 h1
 else
 xgR h1 l0 22 2 fun x3 =>
 xB x3 fun a5 =>
 xaI h1 a5 (wr (0 + l2)) fun x4 =>
 xck h1 l0 22 <|
 kI (rn d 221 [iR (some l0), iI l1, iI x4] h1) fun x7 h6 =>
 xgR h6 l0 22 2 fun x8 =>
 xB x8 fun a10 =>
 xaI h6 a10 (wr (0 + l1)) fun x9 =>
 xck h6 l0 22 <|
 kI (rn d 221 [iR (some l0), iI l1, iI x9] h6) fun x12 h11 =>
 (if x7 ≤ x12 then
 xZ 0 h11
 else
 xgR h11 l0 22 2 fun x13 =>
 xB x13 fun a15 =>
 xaI h11 a15 (wr (0 + l1)) fun x14 =>
 xck h11 l0 22 <|
 kI (rn d 221 [iR (some l0), iI l2, iI x14] h11) fun x17 h16 =>
 xgR h16 l0 22 2 fun x18 =>
 xB x18 fun a20 =>
 xaI h16 a20 (wr (0 + l2)) fun x19 =>
 xck h16 l0 22 <|
 kI (rn d 221 [iR (some l0), iI l2, iI x19] h16) fun x22 h21 =>
 (if x17 ≤ x22 then
 xZ 0 h21
 else
 xZ 1 h21)))) := rfl
-- TownSundaysModel.bargains(I)I
theorem r_M_bargains (d : Nat) (l0 : Nat) (l1 : Int) (h : IH) : rn (d + 1) 268 [iR (some l0), iI l1] h = lp d 268 (999999 + 1) 0 [some (iR (some l0)), some (iI l1), none, none, none] [] h := rn_lp rfl rfl
set_option maxRecDepth 20000 in
set_option maxHeartbeats 4000000 in
theorem e_M_bargains (d n : Nat) (l0 : Nat) (l1 : Int) (h : IH) :
 lp d 268 (n + 1) 0 [some (iR (some l0)), some (iI l1), none, none, none] [] h =
 ((if l1 < (-1) then
 some (oI (-1), h)
 else
 lp d 268 n 11 [some (iR (some l0)), some (iI l1), some (iI 0), some (iI 0), none] [] h)) := rfl
set_option maxRecDepth 20000 in
set_option maxHeartbeats 4000000 in
theorem e_M_bargains_11 (d n : Nat) (l0 : Nat) (l1 : Int) (l2 : Int) (l3 : Int) (h : IH) :
 lp d 268 (n + 1) 11 [some (iR (some l0)), some (iI l1), some (iI l2), some (iI l3), none] [] h =
 (xck h l0 22 <|
 kI (rn d 160 [iR (some l0)] h) fun x2 h1 =>
 (if l3 < x2 then
 lp d 268 n 24 [some (iR (some l0)), some (iI l1), some (iI l2), some (iI l3), some (iI (wr (l3 + 1)))] [] h1
 else
 (if l1 = (-1) then
 some (oI l2, h1)
 else
 some (oI (-1), h1)))) := rfl
set_option maxRecDepth 20000 in
set_option maxHeartbeats 4000000 in
theorem e_M_bargains_24 (d n : Nat) (l0 : Nat) (l1 : Int) (l2 : Int) (l3 : Int) (l4 : Int) (h : IH) :
 lp d 268 (n + 1) 24 [some (iR (some l0)), some (iI l1), some (iI l2), some (iI l3), some (iI l4)] [] h =
 (xck h l0 22 <|
 kI (rn d 160 [iR (some l0)] h) fun x2 h1 =>
 (if l4 < x2 then
 xck h1 l0 22 <|
 kI (rn d 267 [iR (some l0), iI l3, iI l4] h1) fun x4 h3 =>
 (if x4 = 0 then
 lp d 268 n 24 [some (iR (some l0)), some (iI l1), some (iI l2), some (iI l3), some (iI (wr (l4 + 1)))] [] h3
 else
 (if l2 = l1 then
 kI (rn d 154 [iI l3, iI l4] h3) fun x6 h5 =>
 some (oI x6, h5)
 else
 lp d 268 n 24 [some (iR (some l0)), some (iI l1), some (iI (wr (l2 + 1))), some (iI l3), some (iI (wr (l4 + 1)))] [] h3))
 else
 lp d 268 n 11 [some (iR (some l0)), some (iI l1), some (iI l2), some (iI (wr (l3 + 1))), none] [] h1)) := rfl
-- TownSundaysModel.envy(I)I
theorem r_M_envy (d : Nat) (l0 : Nat) (l1 : Int) (h : IH) : rn (d + 1) 269 [iR (some l0), iI l1] h = lp d 269 (999999 + 1) 0 [some (iR (some l0)), some (iI l1), none, none, none] [] h := rn_lp rfl rfl
set_option maxRecDepth 20000 in
set_option maxHeartbeats 4000000 in
theorem e_M_envy (d n : Nat) (l0 : Nat) (l1 : Int) (h : IH) :
 lp d 269 (n + 1) 0 [some (iR (some l0)), some (iI l1), none, none, none] [] h =
 (xck h l0 22 <|
 kI (rn d 161 [iR (some l0), iI l1] h) fun x2 h1 =>
 (if x2 = 0 then
 some (oI (-1), h1)
 else
 xgR h1 l0 22 2 fun x3 =>
 xB x3 fun a5 =>
 xaI h1 a5 (wr (0 + l1)) fun x4 =>
 xck h1 l0 22 <|
 kI (rn d 221 [iR (some l0), iI l1, iI x4] h1) fun x7 h6 =>
 lp d 269 n 29 [some (iR (some l0)), some (iI l1), some (iI x7), some (iI 0), some (iI 0)] [] h6)) := rfl
set_option maxRecDepth 20000 in
set_option maxHeartbeats 4000000 in
theorem e_M_envy_29 (d n : Nat) (l0 : Nat) (l1 : Int) (l2 : Int) (l3 : Int) (l4 : Int) (h : IH) :
 lp d 269 (n + 1) 29 [some (iR (some l0)), some (iI l1), some (iI l2), some (iI l3), some (iI l4)] [] h =
 (xck h l0 22 <|
 kI (rn d 160 [iR (some l0)] h) fun x2 h1 =>
 (if l4 < x2 then
 xgR h1 l0 22 2 fun x3 =>
 xB x3 fun a5 =>
 xaI h1 a5 (wr (0 + l4)) fun x4 =>
 xck h1 l0 22 <|
 kI (rn d 221 [iR (some l0), iI l1, iI x4] h1) fun x7 h6 =>
 (if x7 ≤ l2 then
 lp d 269 n 29 [some (iR (some l0)), some (iI l1), some (iI l2), some (iI (ior l3 0)), some (iI (wr (l4 + 1)))] [] h6
 else
 lp d 269 n 29 [some (iR (some l0)), some (iI l1), some (iI l2), some (iI (ior l3 (ishl 1 l4))), some (iI (wr (l4 + 1)))] [] h6)
 else
 some (oI l3, h1))) := rfl
-- TownSundaysModel.heard(II)I
theorem r_M_heard (d : Nat) (l0 : Nat) (l1 : Int) (l2 : Int) (h : IH) : rn (d + 1) 270 [iR (some l0), iI l1, iI l2] h = lp d 270 (999999 + 1) 0 [some (iR (some l0)), some (iI l1), some (iI l2), none] [] h := rn_lp rfl rfl
set_option maxRecDepth 20000 in
set_option maxHeartbeats 4000000 in
theorem e_M_heard (d n : Nat) (l0 : Nat) (l1 : Int) (l2 : Int) (h : IH) :
 lp d 270 (n + 1) 0 [some (iR (some l0)), some (iI l1), some (iI l2), none] [] h =
 (kI (rn d 147 [iI l2, iI 0, iI 99] h) fun x2 h1 =>
 (if x2 = 0 then
 xck h1 l0 22 <|
 kI (rn d 150 [iR (some l0), iI (-1)] h1) fun x4 h3 =>
 some (oI x4, h3)
 else
 xck h1 l0 22 <|
 kI (rn d 161 [iR (some l0), iI l1] h1) fun x6 h5 =>
 (if x6 = 0 then
 xck h5 l0 22 <|
 kI (rn d 150 [iR (some l0), iI (-2)] h5) fun x8 h7 =>
 some (oI x8, h7)
 else
 xgR h5 l0 22 2 fun x9 =>
 xB x9 fun a11 =>
 xaI h5 a11 184 fun x10 =>
 xgR h5 l0 22 2 fun x12 =>
 xB x12 fun a14 =>
 xaI h5 a14 184 fun x13 =>
 (if x13 = 6 then
 xck h5 l0 22 <|
 kI (rn d 150 [iR (some l0), iI (-5)] h5) fun x16 h15 =>
 some (oI x16, h15)
 else
 xgR h5 l0 22 2 fun x17 =>
 xB x17 fun a19 =>
 xsI h5 a19 (wr (169 + (wr (2 * x10)))) l1 fun h18 =>
 xgR h18 l0 22 2 fun x20 =>
 xB x20 fun a22 =>
 xsI h18 a22 (wr ((wr (169 + (wr (2 * x10)))) + 1)) l2 fun h21 =>
 xgR h21 l0 22 2 fun x23 =>
 xB x23 fun a25 =>
 xaI h21 a25 184 fun x24 =>
 xB x23 fun a27 =>
 xsI h21 a27 184 (wr (x24 + 1)) fun h26 =>
 xgR h26 l0 22 2 fun x28 =>
 xB x28 fun a30 =>
 xaI h26 a30 184 fun x29 =>
 xck h26 l0 22 <|
 kI (rn d 151 [iR (some l0), iI x29] h26) fun x32 h31 =>
 some (oI x32, h31))))) := rfl
-- TownSundaysModel.forget()I
theorem r_M_forget (d : Nat) (l0 : Nat) (h : IH) : rn (d + 1) 271 [iR (some l0)] h = lp d 271 (999999 + 1) 0 [some (iR (some l0)), none] [] h := rn_lp rfl rfl
set_option maxRecDepth 20000 in
set_option maxHeartbeats 4000000 in
theorem e_M_forget (d n : Nat) (l0 : Nat) (h : IH) :
 lp d 271 (n + 1) 0 [some (iR (some l0)), none] [] h =
 (xgR h l0 22 2 fun x1 =>
 xB x1 fun a3 =>
 xaI h a3 184 fun x2 =>
 xgR h l0 22 2 fun x4 =>
 xB x4 fun a6 =>
 xsI h a6 184 0 fun h5 =>
 some (oI x2, h5)) := rfl
-- TownSundaysModel.isSo(I)Z
theorem r_M_isSo (d : Nat) (l0 : Nat) (l1 : Int) (h : IH) : rn (d + 1) 272 [iR (some l0), iI l1] h = lp d 272 (999999 + 1) 0 [some (iR (some l0)), some (iI l1), none, none] [] h := rn_lp rfl rfl
set_option maxRecDepth 20000 in
set_option maxHeartbeats 4000000 in
theorem e_M_isSo (d n : Nat) (l0 : Nat) (l1 : Int) (h : IH) :
 lp d 272 (n + 1) 0 [some (iR (some l0)), some (iI l1), none, none] [] h =
 (lp d 272 n 4 [some (iR (some l0)), some (iI l1), some (iI 1), some (iI 0)] [] h) := rfl
set_option maxRecDepth 20000 in
set_option maxHeartbeats 4000000 in
theorem e_M_isSo_4 (d n : Nat) (l0 : Nat) (l1 : Int) (l2 : Int) (l3 : Int) (h : IH) :
 lp d 272 (n + 1) 4 [some (iR (some l0)), some (iI l1), some (iI l2), some (iI l3)] [] h =
 (xgR h l0 22 2 fun x1 =>
 xB x1 fun a3 =>
 xaI h a3 184 fun x2 =>
 (if l3 < x2 then
 (if l2 = 0 then
 lp d 272 n 4 [some (iR (some l0)), some (iI l1), some (iI 0), some (iI (wr (l3 + 1)))] [] h
 else
 xgR h l0 22 2 fun x4 =>
 xB x4 fun a6 =>
 xaI h a6 (wr (169 + (wr (2 * l3)))) fun x5 =>
 xck h l0 22 <|
 kI (rn d 221 [iR (some l0), iI l1, iI x5] h) fun x8 h7 =>
 xgR h7 l0 22 2 fun x9 =>
 xB x9 fun a11 =>
 xaI h7 a11 (wr ((wr (169 + (wr (2 * l3)))) + 1)) fun x10 =>
 (if x8 = x10 then
 lp d 272 n 4 [some (iR (some l0)), some (iI l1), some (iI 1), some (iI (wr (l3 + 1)))] [] h7
 else
 lp d 272 n 4 [some (iR (some l0)), some (iI l1), some (iI 0), some (iI (wr (l3 + 1)))] [] h7))
 else
 xZ l2 h)) := rfl
-- TownSundaysModel.canBe()I
theorem r_M_canBe (d : Nat) (l0 : Nat) (h : IH) : rn (d + 1) 273 [iR (some l0)] h = lp d 273 (999999 + 1) 0 [some (iR (some l0)), none, none] [] h := rn_lp rfl rfl
set_option maxRecDepth 20000 in
set_option maxHeartbeats 4000000 in
theorem e_M_canBe (d n : Nat) (l0 : Nat) (h : IH) :
 lp d 273 (n + 1) 0 [some (iR (some l0)), none, none] [] h =
 (lp d 273 n 4 [some (iR (some l0)), some (iI 0), some (iI 0)] [] h) := rfl
set_option maxRecDepth 20000 in
set_option maxHeartbeats 4000000 in
theorem e_M_canBe_4 (d n : Nat) (l0 : Nat) (l1 : Int) (l2 : Int) (h : IH) :
 lp d 273 (n + 1) 4 [some (iR (some l0)), some (iI l1), some (iI l2)] [] h =
 (xck h l0 22 <|
 kI (rn d 160 [iR (some l0)] h) fun x2 h1 =>
 (if l2 < x2 then
 xck h1 l0 22 <|
 kI (rn d 272 [iR (some l0), iI l2] h1) fun x4 h3 =>
 (if x4 = 0 then
 lp d 273 n 4 [some (iR (some l0)), some (iI (ior l1 0)), some (iI (wr (l2 + 1)))] [] h3
 else
 lp d 273 n 4 [some (iR (some l0)), some (iI (ior l1 (ishl 1 l2))), some (iI (wr (l2 + 1)))] [] h3)
 else
 some (oI l1, h1))) := rfl
-- TownSundaysModel.mostAlike(II)I
theorem r_M_mostAlike (d : Nat) (l0 : Nat) (l1 : Int) (l2 : Int) (h : IH) : rn (d + 1) 274 [iR (some l0), iI l1, iI l2] h = lp d 274 (999999 + 1) 0 [some (iR (some l0)), some (iI l1), some (iI l2), none, none, none, none] [] h := rn_lp rfl rfl
set_option maxRecDepth 20000 in
set_option maxHeartbeats 4000000 in
theorem e_M_mostAlike (d n : Nat) (l0 : Nat) (l1 : Int) (l2 : Int) (h : IH) :
 lp d 274 (n + 1) 0 [some (iR (some l0)), some (iI l1), some (iI l2), none, none, none, none] [] h =
 (lp d 274 n 5 [some (iR (some l0)), some (iI l1), some (iI l2), some (iI 0), some (iI 0), none, none] [] h) := rfl
set_option maxRecDepth 20000 in
set_option maxHeartbeats 4000000 in
theorem e_M_mostAlike_5 (d n : Nat) (l0 : Nat) (l1 : Int) (l2 : Int) (l3 : Int) (l4 : Int) (h : IH) :
 lp d 274 (n + 1) 5 [some (iR (some l0)), some (iI l1), some (iI l2), some (iI l3), some (iI l4), none, none] [] h =
 (xck h l0 22 <|
 kI (rn d 160 [iR (some l0)] h) fun x2 h1 =>
 (if l4 < x2 then
 lp d 274 n 20 [some (iR (some l0)), some (iI l1), some (iI l2), some (iI l3), some (iI l4), some (iI 0), some (iI 0)] [] h1
 else
 some (oI l3, h1))) := rfl
set_option maxRecDepth 20000 in
set_option maxHeartbeats 4000000 in
theorem e_M_mostAlike_20 (d n : Nat) (l0 : Nat) (l1 : Int) (l2 : Int) (l3 : Int) (l4 : Int) (l5 : Int) (l6 : Int) (h : IH) :
 lp d 274 (n + 1) 20 [some (iR (some l0)), some (iI l1), some (iI l2), some (iI l3), some (iI l4), some (iI l5), some (iI l6)] [] h =
 (xck h l0 22 <|
 kI (rn d 160 [iR (some l0)] h) fun x2 h1 =>
 (if l6 < x2 then
 kI (rn d 153 [iI l1, iI l6] h1) fun x4 h3 =>
 (if x4 = 0 then
 lp d 274 n 20 [some (iR (some l0)), some (iI l1), some (iI l2), some (iI l3), some (iI l4), some (iI (wr (l5 + 0))), some (iI (wr (l6 + 1)))] [] h3
 else
 xgR h3 l0 22 35 fun x5 =>
 kI (rn d 154 [iI l4, iI l2] h3) fun x7 h6 =>
 xB x5 fun a9 =>
 xaI h6 a9 x7 fun x8 =>
 xgR h6 l0 22 35 fun x10 =>
 kI (rn d 154 [iI l6, iI l2] h6) fun x12 h11 =>
 xB x10 fun a14 =>
 xaI h11 a14 x12 fun x13 =>
 (if x8 = x13 then
 lp d 274 n 20 [some (iR (some l0)), some (iI l1), some (iI l2), some (iI l3), some (iI l4), some (iI (wr (l5 + 1))), some (iI (wr (l6 + 1)))] [] h11
 else
 lp d 274 n 20 [some (iR (some l0)), some (iI l1), some (iI l2), some (iI l3), some (iI l4), some (iI (wr (l5 + 0))), some (iI (wr (l6 + 1)))] [] h11))
 else
 kI (rn d 153 [iI l1, iI l4] h1) fun x16 h15 =>
 (if x16 = 0 then
 lp d 274 n 5 [some (iR (some l0)), some (iI l1), some (iI l2), some (iI l3), some (iI (wr (l4 + 1))), none, none] [] h15
 else
 kI (rn d 149 [iI l3, iI l5] h15) fun x18 h17 =>
 lp d 274 n 5 [some (iR (some l0)), some (iI l1), some (iI l2), some (iI x18), some (iI (wr (l4 + 1))), none, none] [] h17))) := rfl
