/-! Equations of methods 275 to 305 (by program, wip/whole/gen17.py) -/
-- TownSundaysModel.ask(I)I
theorem r_M_ask (d : Nat) (l0 : Nat) (l1 : Int) (h : IH) : rn (d + 1) 275 [iR (some l0), iI l1] h = lp d 275 (999999 + 1) 0 [some (iR (some l0)), some (iI l1), none, none, none, none, none] [] h := rn_lp rfl rfl
set_option maxRecDepth 20000 in
set_option maxHeartbeats 4000000 in
theorem e_M_ask (d n : Nat) (l0 : Nat) (l1 : Int) (h : IH) :
 lp d 275 (n + 1) 0 [some (iR (some l0)), some (iI l1), none, none, none, none, none] [] h =
 (kI (rn d 147 [iI l1, iI 0, iI 1] h) fun x2 h1 =>
 (if x2 = 0 then
 some (oI (-1), h1)
 else
 xck h1 l0 22 <|
 kI (rn d 273 [iR (some l0)] h1) fun x4 h3 =>
 xck h3 l0 22 <|
 kV (rn d 249 [iR (some l0), iI 0] h3) fun h5 =>
 lp d 275 n 30 [some (iR (some l0)), some (iI l1), some (iI x4), some (iI (-1)), some (iI 1000000), some (iI 0), none] [] h5)) := rfl
set_option maxRecDepth 20000 in
set_option maxHeartbeats 4000000 in
theorem e_M_ask_30 (d n : Nat) (l0 : Nat) (l1 : Int) (l2 : Int) (l3 : Int) (l4 : Int) (l5 : Int) (h : IH) :
 lp d 275 (n + 1) 30 [some (iR (some l0)), some (iI l1), some (iI l2), some (iI l3), some (iI l4), some (iI l5), none] [] h =
 (xck h l0 22 <|
 kI (rn d 160 [iR (some l0)] h) fun x2 h1 =>
 (if l5 < x2 then
 (if l2 = 0 then
 (if l3 = (-1) then
 some (oI l3, h1)
 else
 (if l1 = 0 then
 some (oI l3, h1)
 else
 some (oI l4, h1)))
 else
 xck h1 l0 22 <|
 kI (rn d 274 [iR (some l0), iI l2, iI l5] h1) fun x4 h3 =>
 (if x4 < l4 then
 lp d 275 n 30 [some (iR (some l0)), some (iI l1), some (iI l2), some (iI l5), some (iI x4), some (iI (wr (l5 + 1))), none] [] h3
 else
 lp d 275 n 30 [some (iR (some l0)), some (iI l1), some (iI l2), some (iI l3), some (iI l4), some (iI (wr (l5 + 1))), none] [] h3))
 else
 (if l3 = (-1) then
 some (oI l3, h1)
 else
 (if l1 = 0 then
 some (oI l3, h1)
 else
 some (oI l4, h1))))) := rfl
-- TownSundaysModel.few(II)J
theorem r_M_few (d : Nat) (l0 : Nat) (l1 : Int) (l2 : Int) (h : IH) : rn (d + 1) 276 [iR (some l0), iI l1, iI l2] h = lp d 276 (999999 + 1) 0 [some (iR (some l0)), some (iI l1), some (iI l2), none, none, none] [] h := rn_lp rfl rfl
set_option maxRecDepth 20000 in
set_option maxHeartbeats 4000000 in
theorem e_M_few (d n : Nat) (l0 : Nat) (l1 : Int) (l2 : Int) (h : IH) :
 lp d 276 (n + 1) 0 [some (iR (some l0)), some (iI l1), some (iI l2), none, none, none] [] h =
 (kI (rn d 147 [iI l1, iI 1, iI 20] h) fun x2 h1 =>
 (if x2 = 0 then
 some (oJ (-1), h1)
 else
 kI (rn d 147 [iI l2, iI 0, iI 99] h1) fun x4 h3 =>
 (if x4 = 0 then
 some (oJ (-1), h3)
 else
 lp d 276 n 26 [some (iR (some l0)), some (iI l1), some (iI l2), some (iI 0), none, none] [] h3))) := rfl
set_option maxRecDepth 20000 in
set_option maxHeartbeats 4000000 in
theorem e_M_few_26 (d n : Nat) (l0 : Nat) (l1 : Int) (l2 : Int) (l3 : Int) (h : IH) :
 lp d 276 (n + 1) 26 [some (iR (some l0)), some (iI l1), some (iI l2), some (iI l3), none, none] [] h =
 ((if l3 ≤ 20 then
 xgR h l0 22 46 fun x1 =>
 (if l3 = 0 then
 xB x1 fun a3 =>
 xsJ h a3 l3 1000000000000 fun h2 =>
 lp d 276 n 26 [some (iR (some l0)), some (iI l1), some (iI l2), some (iI (wr (l3 + 1))), none, none] [] h2
 else
 xB x1 fun a5 =>
 xsJ h a5 l3 0 fun h4 =>
 lp d 276 n 26 [some (iR (some l0)), some (iI l1), some (iI l2), some (iI (wr (l3 + 1))), none, none] [] h4)
 else
 lp d 276 n 57 [some (iR (some l0)), some (iI l1), some (iI l2), some (iI 0), none, none] [] h)) := rfl
set_option maxRecDepth 20000 in
set_option maxHeartbeats 4000000 in
theorem e_M_few_57 (d n : Nat) (l0 : Nat) (l1 : Int) (l2 : Int) (l3 : Int) (h : IH) :
 lp d 276 (n + 1) 57 [some (iR (some l0)), some (iI l1), some (iI l2), some (iI l3), none, none] [] h =
 ((if l3 < l2 then
 lp d 276 n 67 [some (iR (some l0)), some (iI l1), some (iI l2), some (iI l3), some (iI (wr (l1 - 1))), none] [] h
 else
 lp d 276 n 153 [some (iR (some l0)), some (iI l1), none, some (iJ 0), none, some (iI 0)] [] h)) := rfl
set_option maxRecDepth 20000 in
set_option maxHeartbeats 4000000 in
theorem e_M_few_67 (d n : Nat) (l0 : Nat) (l1 : Int) (l2 : Int) (l3 : Int) (l4 : Int) (h : IH) :
 lp d 276 (n + 1) 67 [some (iR (some l0)), some (iI l1), some (iI l2), some (iI l3), some (iI l4), none] [] h =
 ((if l4 < 0 then
 lp d 276 n 57 [some (iR (some l0)), some (iI l1), some (iI l2), some (iI (wr (l3 + 1))), none, none] [] h
 else
 xgR h l0 22 46 fun x1 =>
 xB x1 fun a3 =>
 xaJ h a3 (wr (l4 + 1)) fun x2 =>
 xgR h l0 22 46 fun x4 =>
 xB x4 fun a6 =>
 xaJ h a6 l4 fun x5 =>
 xgR h l0 22 2 fun x7 =>
 xB x7 fun a9 =>
 xaI h a9 181 fun x8 =>
 xdJ (wl (x5 * x8)) 10 fun x10 =>
 xB x1 fun a12 =>
 xsJ h a12 (wr (l4 + 1)) (wl (x2 + x10)) fun h11 =>
 xgR h11 l0 22 46 fun x13 =>
 xgR h11 l0 22 46 fun x14 =>
 xB x14 fun a16 =>
 xaJ h11 a16 l4 fun x15 =>
 xgR h11 l0 22 2 fun x17 =>
 xB x17 fun a19 =>
 xaI h11 a19 181 fun x18 =>
 xdJ (wl (x15 * (wr (10 - x18)))) 10 fun x20 =>
 xB x13 fun a22 =>
 xsJ h11 a22 l4 x20 fun h21 =>
 lp d 276 n 67 [some (iR (some l0)), some (iI l1), some (iI l2), some (iI l3), some (iI (wr (l4 + (-1)))), none] [] h21)) := rfl
set_option maxRecDepth 20000 in
set_option maxHeartbeats 4000000 in
theorem e_M_few_153 (d n : Nat) (l0 : Nat) (l1 : Int) (l3 : Int) (l5 : Int) (h : IH) :
 lp d 276 (n + 1) 153 [some (iR (some l0)), some (iI l1), none, some (iJ l3), none, some (iI l5)] [] h =
 ((if l5 < l1 then
 xgR h l0 22 46 fun x1 =>
 xB x1 fun a3 =>
 xaJ h a3 l5 fun x2 =>
 lp d 276 n 153 [some (iR (some l0)), some (iI l1), none, some (iJ (wl (l3 + x2))), none, some (iI (wr (l5 + 1)))] [] h
 else
 some (oJ l3, h))) := rfl
-- TownSundaysModel.compare(III)I
theorem r_M_compare (d : Nat) (l0 : Nat) (l1 : Int) (l2 : Int) (l3 : Int) (h : IH) : rn (d + 1) 277 [iR (some l0), iI l1, iI l2, iI l3] h = lp d 277 (999999 + 1) 0 [some (iR (some l0)), some (iI l1), some (iI l2), some (iI l3), none, none] [] h := rn_lp rfl rfl
set_option maxRecDepth 20000 in
set_option maxHeartbeats 4000000 in
theorem e_M_compare (d n : Nat) (l0 : Nat) (l1 : Int) (l2 : Int) (l3 : Int) (h : IH) :
 lp d 277 (n + 1) 0 [some (iR (some l0)), some (iI l1), some (iI l2), some (iI l3), none, none] [] h =
 (xck h l0 22 <|
 kI (rn d 205 [iR (some l0), iI l1] h) fun x2 h1 =>
 (if x2 = 0 then
 some (oI (-1), h1)
 else
 xck h1 l0 22 <|
 kI (rn d 161 [iR (some l0), iI l2] h1) fun x4 h3 =>
 (if x4 = 0 then
 some (oI (-1), h3)
 else
 xck h3 l0 22 <|
 kI (rn d 161 [iR (some l0), iI l3] h3) fun x6 h5 =>
 (if x6 = 0 then
 some (oI (-1), h5)
 else
 xgR h5 l0 22 2 fun x7 =>
 xB x7 fun a9 =>
 xaI h5 a9 186 fun x8 =>
 xgR h5 l0 22 2 fun x10 =>
 xB x10 fun a12 =>
 xsI h5 a12 186 l1 fun h11 =>
 xck h11 l0 22 <|
 kI (rn d 221 [iR (some l0), iI l2, iI l3] h11) fun x14 h13 =>
 xgR h13 l0 22 2 fun x15 =>
 xB x15 fun a17 =>
 xsI h13 a17 186 x8 fun h16 =>
 some (oI x14, h16))))) := rfl
-- TownSundaysModel.stopped()I
theorem r_M_stopped (d : Nat) (l0 : Nat) (h : IH) : rn (d + 1) 278 [iR (some l0)] h = lp d 278 (999999 + 1) 0 [some (iR (some l0))] [] h := rn_lp rfl rfl
set_option maxRecDepth 20000 in
set_option maxHeartbeats 4000000 in
theorem e_M_stopped (d n : Nat) (l0 : Nat) (h : IH) :
 lp d 278 (n + 1) 0 [some (iR (some l0))] [] h =
 (xgI h l0 22 47 fun x1 =>
 some (oI x1, h)) := rfl
-- TownSundaysModel.orders()I
theorem r_M_orders (d : Nat) (l0 : Nat) (h : IH) : rn (d + 1) 279 [iR (some l0)] h = lp d 279 (999999 + 1) 0 [some (iR (some l0)), none, none, none, none] [] h := rn_lp rfl rfl
set_option maxRecDepth 20000 in
set_option maxHeartbeats 4000000 in
theorem e_M_orders (d n : Nat) (l0 : Nat) (h : IH) :
 lp d 279 (n + 1) 0 [some (iR (some l0)), none, none, none, none] [] h =
 (xpI h l0 22 47 (-1) fun h1 =>
 xck h1 l0 22 <|
 kI (rn d 201 [iR (some l0), iI 1] h1) fun x3 h2 =>
 (if x3 = 0 then
 xck h2 l0 22 <|
 kI (rn d 150 [iR (some l0), iI (-6)] h2) fun x5 h4 =>
 some (oI x5, h4)
 else
 xck h2 l0 22 <|
 kV (rn d 156 [iR (some l0), iI 1] h2) fun h6 =>
 lp d 279 n 27 [some (iR (some l0)), some (iI 0), none, none, none] [] h6)) := rfl
set_option maxRecDepth 20000 in
set_option maxHeartbeats 4000000 in
theorem e_M_orders_27 (d n : Nat) (l0 : Nat) (l1 : Int) (h : IH) :
 lp d 279 (n + 1) 27 [some (iR (some l0)), some (iI l1), none, none, none] [] h =
 ((if l1 < 1824 then
 xgR h l0 22 30 fun x1 =>
 xgR h l0 22 29 fun x2 =>
 xB x2 fun a4 =>
 xaI h a4 l1 fun x3 =>
 xB x1 fun a6 =>
 xsI h a6 l1 x3 fun h5 =>
 lp d 279 n 27 [some (iR (some l0)), some (iI (wr (l1 + 1))), none, none, none] [] h5
 else
 xgI h l0 22 31 fun x7 =>
 xck h l0 22 <|
 kV (rn d 202 [iR (some l0), iI 6] h) fun h8 =>
 xpI h8 l0 22 27 0 fun h9 =>
 xpI h9 l0 22 28 (-1) fun h10 =>
 xpI h10 l0 22 48 2400 fun h11 =>
 xgI h11 l0 22 48 fun x12 =>
 xgR h11 l0 22 2 fun x13 =>
 xB x13 fun a15 =>
 xaI h11 a15 193 fun x14 =>
 lp d 279 n 96 [some (iR (some l0)), some (iI x7), some (iI (wr (x12 + x14))), some (iI 0), none] [] h11)) := rfl
set_option maxRecDepth 20000 in
set_option maxHeartbeats 4000000 in
theorem e_M_orders_96 (d n : Nat) (l0 : Nat) (l1 : Int) (l2 : Int) (l3 : Int) (h : IH) :
 lp d 279 (n + 1) 96 [some (iR (some l0)), some (iI l1), some (iI l2), some (iI l3), none] [] h =
 (xgI h l0 22 48 fun x1 =>
 (if x1 < l2 then
 xck h l0 22 <|
 kI (rn d 283 [iR (some l0), iI l2] h) fun x3 h2 =>
 (if x3 = 0 then
 xck h2 l0 22 <|
 kV (rn d 157 [iR (some l0), iI 1] h2) fun h4 =>
 lp d 279 n 123 [some (iR (some l0)), some (iI l1), none, some (iI l3), some (iI 0)] [] h4
 else
 lp d 279 n 96 [some (iR (some l0)), some (iI l1), some (iI l2), some (iI (wr (l3 + 1))), none] [] h2)
 else
 xgI h l0 22 27 fun x5 =>
 xck h l0 22 <|
 kI (rn d 151 [iR (some l0), iI x5] h) fun x7 h6 =>
 some (oI x7, h6))) := rfl
set_option maxRecDepth 20000 in
set_option maxHeartbeats 4000000 in
theorem e_M_orders_123 (d n : Nat) (l0 : Nat) (l1 : Int) (l3 : Int) (l4 : Int) (h : IH) :
 lp d 279 (n + 1) 123 [some (iR (some l0)), some (iI l1), none, some (iI l3), some (iI l4)] [] h =
 ((if l4 < 1824 then
 xgR h l0 22 29 fun x1 =>
 xgR h l0 22 30 fun x2 =>
 xB x2 fun a4 =>
 xaI h a4 l4 fun x3 =>
 xB x1 fun a6 =>
 xsI h a6 l4 x3 fun h5 =>
 lp d 279 n 123 [some (iR (some l0)), some (iI l1), none, some (iI l3), some (iI (wr (l4 + 1)))] [] h5
 else
 xpI h l0 22 31 l1 fun h7 =>
 xpI h7 l0 22 47 l3 fun h8 =>
 xck h8 l0 22 <|
 kI (rn d 150 [iR (some l0), iI (-3)] h8) fun x10 h9 =>
 some (oI x10, h9))) := rfl
-- TownSundaysModel.goesAlong(IZ)V
theorem r_M_goesAlong (d : Nat) (l0 : Nat) (l1 : Int) (l2 : Int) (h : IH) : rn (d + 1) 280 [iR (some l0), iI l1, iI l2] h = lp d 280 (999999 + 1) 0 [some (iR (some l0)), some (iI l1), some (iI l2), none, none] [] h := rn_lp rfl rfl
set_option maxRecDepth 20000 in
set_option maxHeartbeats 4000000 in
theorem e_M_goesAlong (d n : Nat) (l0 : Nat) (l1 : Int) (l2 : Int) (h : IH) :
 lp d 280 (n + 1) 0 [some (iR (some l0)), some (iI l1), some (iI l2), none, none] [] h =
 (xpZ h l0 22 25 1 fun h1 =>
 xpI h1 l0 22 23 l1 fun h2 =>
 xgI h2 l0 22 48 fun x3 =>
 xpI h2 l0 22 22 x3 fun h4 =>
 xgI h4 l0 22 22 fun x5 =>
 xck h4 l0 22 <|
 kI (rn d 207 [iR (some l0), iI x5] h4) fun x7 h6 =>
 xpI h6 l0 22 50 x7 fun h8 =>
 xgI h8 l0 22 22 fun x9 =>
 xpI h8 l0 22 22 (wr (x9 + 1)) fun h10 =>
 xpZ h10 l0 22 51 1 fun h11 =>
 xgI h11 l0 22 50 fun x12 =>
 (if x12 = 26 then
 lp d 280 n 76 [some (iR (some l0)), none, some (iI l2), some (iI 0), some (iI 0)] [] h11
 else
 xgI h11 l0 22 50 fun x13 =>
 (if x13 = 23 then
 lp d 280 n 76 [some (iR (some l0)), none, some (iI l2), some (iI 3), some (iI 0)] [] h11
 else
 lp d 280 n 76 [some (iR (some l0)), none, some (iI l2), some (iI 2), some (iI 0)] [] h11))) := rfl
set_option maxRecDepth 20000 in
set_option maxHeartbeats 4000000 in
theorem e_M_goesAlong_76 (d n : Nat) (l0 : Nat) (l2 : Int) (l3 : Int) (l4 : Int) (h : IH) :
 lp d 280 (n + 1) 76 [some (iR (some l0)), none, some (iI l2), some (iI l3), some (iI l4)] [] h =
 ((if l4 < l3 then
 (if l4 ≤ 0 then
 lp d 280 n 97 [some (iR (some l0)), none, some (iI l2), some (iI l3), some (iI l4)] [] h
 else
 xgI h l0 22 22 fun x1 =>
 xpI h l0 22 22 (wr (x1 + 1)) fun h2 =>
 lp d 280 n 97 [some (iR (some l0)), none, some (iI l2), some (iI l3), some (iI l4)] [] h2)
 else
 xpI h l0 22 49 1 fun h3 =>
 xck h3 l0 22 <|
 kI (rn d 208 [iR (some l0), iI 27] h3) fun x5 h4 =>
 (if x5 = 0 then
 xpZ h4 l0 22 24 0 fun h6 =>
 xck h6 l0 22 <|
 kI (rn d 208 [iR (some l0), iI 4] h6) fun x8 h7 =>
 (if x8 = 0 then
 lp d 280 n 211 [some (iR (some l0)), none, none, none, none] [iI 1, iR (some l0)] h7
 else
 xck h7 l0 22 <|
 kI (rn d 214 [iR (some l0), iI l2] h7) fun x10 h9 =>
 (if x10 = 0 then
 lp d 280 n 211 [some (iR (some l0)), none, none, none, none] [iI 0, iR (some l0)] h9
 else
 lp d 280 n 211 [some (iR (some l0)), none, none, none, none] [iI 1, iR (some l0)] h9))
 else
 xgR h4 l0 22 2 fun x11 =>
 xgI h4 l0 22 22 fun x12 =>
 xB x11 fun a14 =>
 xaI h4 a14 (wr (2994 + x12)) fun x13 =>
 xpI h4 l0 22 49 x13 fun h15 =>
 xgI h15 l0 22 22 fun x16 =>
 xpI h15 l0 22 22 (wr (x16 + 1)) fun h17 =>
 xpZ h17 l0 22 24 0 fun h18 =>
 xck h18 l0 22 <|
 kI (rn d 208 [iR (some l0), iI 4] h18) fun x20 h19 =>
 (if x20 = 0 then
 lp d 280 n 211 [some (iR (some l0)), none, none, none, none] [iI 1, iR (some l0)] h19
 else
 xck h19 l0 22 <|
 kI (rn d 214 [iR (some l0), iI l2] h19) fun x22 h21 =>
 (if x22 = 0 then
 lp d 280 n 211 [some (iR (some l0)), none, none, none, none] [iI 0, iR (some l0)] h21
 else
 lp d 280 n 211 [some (iR (some l0)), none, none, none, none] [iI 1, iR (some l0)] h21))))) := rfl
set_option maxRecDepth 20000 in
set_option maxHeartbeats 4000000 in
theorem e_M_goesAlong_97 (d n : Nat) (l0 : Nat) (l2 : Int) (l3 : Int) (l4 : Int) (h : IH) :
 lp d 280 (n + 1) 97 [some (iR (some l0)), none, some (iI l2), some (iI l3), some (iI l4)] [] h =
 (xpZ h l0 22 24 0 fun h1 =>
 xgR h1 l0 22 53 fun x2 =>
 xck h1 l0 22 <|
 kJ (rn d 210 [iR (some l0), iI l2] h1) fun x4 h3 =>
 xB x2 fun a6 =>
 xsJ h3 a6 l4 x4 fun h5 =>
 xgI h5 l0 22 51 fun x7 =>
 (if x7 = 0 then
 xpZ h5 l0 22 51 0 fun h8 =>
 lp d 280 n 76 [some (iR (some l0)), none, some (iI l2), some (iI l3), some (iI (wr (l4 + 1)))] [] h8
 else
 xgI h5 l0 22 24 fun x9 =>
 (if x9 = 0 then
 xpZ h5 l0 22 51 1 fun h10 =>
 lp d 280 n 76 [some (iR (some l0)), none, some (iI l2), some (iI l3), some (iI (wr (l4 + 1)))] [] h10
 else
 xpZ h5 l0 22 51 0 fun h11 =>
 lp d 280 n 76 [some (iR (some l0)), none, some (iI l2), some (iI l3), some (iI (wr (l4 + 1)))] [] h11))) := rfl
set_option maxRecDepth 20000 in
set_option maxHeartbeats 4000000 in
theorem e_M_goesAlong_211 (d n : Nat) (l0 : Nat) (s0 : Nat) (s1 : Int) (h : IH) :
 lp d 280 (n + 1) 211 [some (iR (some l0)), none, none, none, none] [iI s1, iR (some s0)] h =
 (xpZ h s0 22 52 s1 fun h1 =>
 xgI h1 l0 22 52 fun x2 =>
 (if x2 = 0 then
 xpZ h1 l0 22 52 0 fun h3 =>
 xgI h3 l0 22 22 fun x4 =>
 xpI h3 l0 22 22 (wr (x4 + 1)) fun h5 =>
 some (o0, h5)
 else
 xgI h1 l0 22 24 fun x6 =>
 (if x6 = 0 then
 xpZ h1 l0 22 52 1 fun h7 =>
 xgI h7 l0 22 22 fun x8 =>
 xpI h7 l0 22 22 (wr (x8 + 1)) fun h9 =>
 some (o0, h9)
 else
 xpZ h1 l0 22 52 0 fun h10 =>
 xgI h10 l0 22 22 fun x11 =>
 xpI h10 l0 22 22 (wr (x11 + 1)) fun h12 =>
 some (o0, h12)))) := rfl
-- TownSundaysModel.small(J)I
theorem r_M_small (d : Nat) (l0 : Int) (h : IH) : rn (d + 1) 281 [iJ l0] h = lp d 281 (999999 + 1) 0 [some (iJ l0), none] [] h := rn_lp rfl rfl
set_option maxRecDepth 20000 in
set_option maxHeartbeats 4000000 in
theorem e_M_small (d n : Nat) (l0 : Int) (h : IH) :
 lp d 281 (n + 1) 0 [some (iJ l0), none] [] h =
 ((if (lcmp l0 0) < 0 then
 some (oI (-1), h)
 else
 (if (lcmp l0 1000000) ≤ 0 then
 some (oI (wr l0), h)
 else
 some (oI (-1), h)))) := rfl
-- TownSundaysModel.obeys()I
theorem r_M_obeys (d : Nat) (l0 : Nat) (h : IH) : rn (d + 1) 282 [iR (some l0)] h = lp d 282 (999999 + 1) 0 [some (iR (some l0)), none] [] h := rn_lp rfl rfl
set_option maxRecDepth 20000 in
set_option maxHeartbeats 4000000 in
theorem e_M_obeys (d n : Nat) (l0 : Nat) (h : IH) :
 lp d 282 (n + 1) 0 [some (iR (some l0)), none] [] h =
 (xgI h l0 22 50 fun x1 =>
 (if x1 = 21 then
 xgR h l0 22 53 fun x46 =>
 xB x46 fun a48 =>
 xaJ h a48 0 fun x47 =>
 kI (rn d 281 [iJ x47] h) fun x50 h49 =>
 xgR h49 l0 22 53 fun x51 =>
 xB x51 fun a53 =>
 xaJ h49 a53 1 fun x52 =>
 kI (rn d 281 [iJ x52] h49) fun x55 h54 =>
 xck h54 l0 22 <|
 kI (rn d 236 [iR (some l0), iI x50, iI x55] h54) fun x57 h56 =>
 some (oI x57, h56)
 else
 (if x1 = 22 then
 xck h l0 22 <|
 kI (rn d 239 [iR (some l0)] h) fun x42 h41 =>
 (if x42 < 0 then
 xgI h41 l0 22 28 fun x43 =>
 xpI h41 l0 22 28 x43 fun h44 =>
 some (oI x42, h44)
 else
 xpI h41 l0 22 28 x42 fun h45 =>
 some (oI x42, h45))
 else
 (if x1 = 23 then
 xgR h l0 22 53 fun x24 =>
 xB x24 fun a26 =>
 xaJ h a26 0 fun x25 =>
 kI (rn d 281 [iJ x25] h) fun x28 h27 =>
 xgR h27 l0 22 53 fun x29 =>
 xB x29 fun a31 =>
 xaJ h27 a31 1 fun x30 =>
 kI (rn d 281 [iJ x30] h27) fun x33 h32 =>
 xgR h32 l0 22 53 fun x34 =>
 xB x34 fun a36 =>
 xaJ h32 a36 2 fun x35 =>
 kI (rn d 281 [iJ x35] h32) fun x38 h37 =>
 xck h37 l0 22 <|
 kI (rn d 237 [iR (some l0), iI x28, iI x33, iI x38] h37) fun x40 h39 =>
 some (oI x40, h39)
 else
 (if x1 = 24 then
 xck h l0 22 <|
 kI (rn d 239 [iR (some l0)] h) fun x20 h19 =>
 (if x20 < 0 then
 xgI h19 l0 22 28 fun x21 =>
 xpI h19 l0 22 28 x21 fun h22 =>
 some (oI x20, h22)
 else
 xpI h19 l0 22 28 x20 fun h23 =>
 some (oI x20, h23))
 else
 (if x1 = 25 then
 xgR h l0 22 53 fun x7 =>
 xB x7 fun a9 =>
 xaJ h a9 0 fun x8 =>
 kI (rn d 281 [iJ x8] h) fun x11 h10 =>
 xgR h10 l0 22 53 fun x12 =>
 xB x12 fun a14 =>
 xaJ h10 a14 1 fun x13 =>
 kI (rn d 281 [iJ x13] h10) fun x16 h15 =>
 xck h15 l0 22 <|
 kI (rn d 238 [iR (some l0), iI x11, iI x16] h15) fun x18 h17 =>
 some (oI x18, h17)
 else
 xck h l0 22 <|
 kI (rn d 239 [iR (some l0)] h) fun x3 h2 =>
 (if x3 < 0 then
 xgI h2 l0 22 28 fun x4 =>
 xpI h2 l0 22 28 x4 fun h5 =>
 some (oI x3, h5)
 else
 xpI h2 l0 22 28 x3 fun h6 =>
 some (oI x3, h6)))))))) := rfl
-- TownSundaysModel.runs(I)Z
theorem r_M_runs (d : Nat) (l0 : Nat) (l1 : Int) (h : IH) : rn (d + 1) 283 [iR (some l0), iI l1] h = lp d 283 (999999 + 1) 0 [some (iR (some l0)), some (iI l1), none, none, none] [] h := rn_lp rfl rfl
set_option maxRecDepth 20000 in
set_option maxHeartbeats 4000000 in
theorem e_M_runs (d n : Nat) (l0 : Nat) (l1 : Int) (h : IH) :
 lp d 283 (n + 1) 0 [some (iR (some l0)), some (iI l1), none, none, none] [] h =
 (xck h l0 22 <|
 kV (rn d 280 [iR (some l0), iI l1, iI 0] h) fun h1 =>
 xgI h1 l0 22 49 fun x2 =>
 xgI h1 l0 22 22 fun x3 =>
 lp d 283 n 19 [some (iR (some l0)), some (iI l1), some (iI x2), some (iI x3), some (iI 0)] [] h1) := rfl
set_option maxRecDepth 20000 in
set_option maxHeartbeats 4000000 in
theorem e_M_runs_19 (d n : Nat) (l0 : Nat) (l1 : Int) (l2 : Int) (l3 : Int) (l4 : Int) (h : IH) :
 lp d 283 (n + 1) 19 [some (iR (some l0)), some (iI l1), some (iI l2), some (iI l3), some (iI l4)] [] h =
 ((if l4 < l2 then
 xck h l0 22 <|
 kV (rn d 280 [iR (some l0), iI l1, iI 1] h) fun h1 =>
 xgI h1 l0 22 52 fun x2 =>
 (if x2 = 0 then
 lp d 283 n 19 [some (iR (some l0)), some (iI l1), some (iI l2), some (iI l3), some (iI (wr (l4 + 1)))] [] h1
 else
 xgI h1 l0 22 51 fun x3 =>
 (if x3 = 0 then
 xZ 0 h1
 else
 xck h1 l0 22 <|
 kI (rn d 282 [iR (some l0)] h1) fun x5 h4 =>
 (if x5 < 0 then
 xZ 0 h4
 else
 xgI h4 l0 22 27 fun x6 =>
 xpI h4 l0 22 27 (wr (x6 + 1)) fun h7 =>
 lp d 283 n 19 [some (iR (some l0)), some (iI l1), some (iI l2), some (iI l3), some (iI (wr (l4 + 1)))] [] h7)))
 else
 xpI h l0 22 48 l3 fun h8 =>
 xZ 1 h8)) := rfl
-- TownSundaysModel.draws(I)I
theorem r_M_draws (d : Nat) (l0 : Nat) (l1 : Int) (h : IH) : rn (d + 1) 284 [iR (some l0), iI l1] h = lp d 284 (999999 + 1) 0 [some (iR (some l0)), some (iI l1)] [] h := rn_lp rfl rfl
set_option maxRecDepth 20000 in
set_option maxHeartbeats 4000000 in
theorem e_M_draws (d n : Nat) (l0 : Nat) (l1 : Int) (h : IH) :
 lp d 284 (n + 1) 0 [some (iR (some l0)), some (iI l1)] [] h =
 (xgI h l0 22 56 fun x1 =>
 xmJ (wl ((wl (1103 * x1)) + 12345)) 1000003 fun x2 =>
 xpI h l0 22 56 (wr x2) fun h3 =>
 xgI h3 l0 22 56 fun x4 =>
 xmI x4 l1 fun x5 =>
 some (oI x5, h3)) := rfl
-- TownSundaysModel.drawnAct()V
theorem r_M_drawnAct (d : Nat) (l0 : Nat) (h : IH) : rn (d + 1) 285 [iR (some l0)] h = lp d 285 (999999 + 1) 0 [some (iR (some l0)), none, none, none, none] [] h := rn_lp rfl rfl
set_option maxRecDepth 20000 in
set_option maxHeartbeats 4000000 in
theorem e_M_drawnAct (d n : Nat) (l0 : Nat) (h : IH) :
 lp d 285 (n + 1) 0 [some (iR (some l0)), none, none, none, none] [] h =
 (xck h l0 22 <|
 kI (rn d 160 [iR (some l0)] h) fun x2 h1 =>
 xck h1 l0 22 <|
 kI (rn d 284 [iR (some l0), iI x2] h1) fun x4 h3 =>
 xck h3 l0 22 <|
 kI (rn d 160 [iR (some l0)] h3) fun x6 h5 =>
 xck h5 l0 22 <|
 kI (rn d 284 [iR (some l0), iI x6] h5) fun x8 h7 =>
 xck h7 l0 22 <|
 kI (rn d 160 [iR (some l0)] h7) fun x10 h9 =>
 xck h9 l0 22 <|
 kI (rn d 284 [iR (some l0), iI x10] h9) fun x12 h11 =>
 xck h11 l0 22 <|
 kI (rn d 284 [iR (some l0), iI 4] h11) fun x14 h13 =>
 (if x14 < 2 then
 (if x4 = x8 then
 lp d 285 n 60 [some (iR (some l0)), some (iI x4), some (iI x8), some (iI x12), some (iI x14)] [] h13
 else
 xck h13 l0 22 <|
 kI (rn d 230 [iR (some l0), iI x4, iI x8] h13) fun x16 h15 =>
 (if x16 = 0 then
 lp d 285 n 60 [some (iR (some l0)), some (iI x4), some (iI x8), some (iI x12), some (iI x14)] [] h15
 else
 xck h15 l0 22 <|
 kV (rn d 231 [iR (some l0), iI x4, iI x8] h15) fun h17 =>
 lp d 285 n 60 [some (iR (some l0)), some (iI x4), some (iI x8), some (iI x12), some (iI x14)] [] h17))
 else
 lp d 285 n 60 [some (iR (some l0)), some (iI x4), some (iI x8), some (iI x12), some (iI x14)] [] h13)) := rfl
set_option maxRecDepth 20000 in
set_option maxHeartbeats 4000000 in
theorem e_M_drawnAct_60 (d n : Nat) (l0 : Nat) (l1 : Int) (l2 : Int) (l3 : Int) (l4 : Int) (h : IH) :
 lp d 285 (n + 1) 60 [some (iR (some l0)), some (iI l1), some (iI l2), some (iI l3), some (iI l4)] [] h =
 ((if l4 = 2 then
 (if l1 = l2 then
 some (o0, h)
 else
 (if l2 = l3 then
 some (o0, h)
 else
 (if l1 = l3 then
 some (o0, h)
 else
 xck h l0 22 <|
 kI (rn d 232 [iR (some l0), iI l1, iI l2, iI l3] h) fun x2 h1 =>
 (if x2 = 0 then
 some (o0, h1)
 else
 xck h1 l0 22 <|
 kV (rn d 233 [iR (some l0), iI l1, iI l2, iI l3] h1) fun h3 =>
 some (o0, h3)))))
 else
 some (o0, h))) := rfl
-- TownSundaysModel.centuries(II)I
theorem r_M_centuries (d : Nat) (l0 : Nat) (l1 : Int) (l2 : Int) (h : IH) : rn (d + 1) 286 [iR (some l0), iI l1, iI l2] h = lp d 286 (999999 + 1) 0 [some (iR (some l0)), some (iI l1), some (iI l2), none, none] [] h := rn_lp rfl rfl
set_option maxRecDepth 20000 in
set_option maxHeartbeats 4000000 in
theorem e_M_centuries (d n : Nat) (l0 : Nat) (l1 : Int) (l2 : Int) (h : IH) :
 lp d 286 (n + 1) 0 [some (iR (some l0)), some (iI l1), some (iI l2), none, none] [] h =
 (kI (rn d 147 [iI l1, iI 0, iI 1000000] h) fun x2 h1 =>
 (if x2 = 0 then
 xck h1 l0 22 <|
 kI (rn d 150 [iR (some l0), iI (-1)] h1) fun x4 h3 =>
 some (oI x4, h3)
 else
 kI (rn d 147 [iI l2, iI 1, iI 60] h1) fun x6 h5 =>
 (if x6 = 0 then
 xck h5 l0 22 <|
 kI (rn d 150 [iR (some l0), iI (-1)] h5) fun x8 h7 =>
 some (oI x8, h7)
 else
 xck h5 l0 22 <|
 kI (rn d 160 [iR (some l0)] h5) fun x10 h9 =>
 (if x10 = 0 then
 xck h9 l0 22 <|
 kI (rn d 150 [iR (some l0), iI (-3)] h9) fun x12 h11 =>
 some (oI x12, h11)
 else
 xpI h9 l0 22 56 l1 fun h13 =>
 xck h13 l0 22 <|
 kI (rn d 160 [iR (some l0)] h13) fun x15 h14 =>
 xpI h14 l0 22 55 x15 fun h16 =>
 xck h16 l0 22 <|
 kV (rn d 156 [iR (some l0), iI 0] h16) fun h17 =>
 lp d 286 n 60 [some (iR (some l0)), none, some (iI l2), some (iI 0), none] [] h17)))) := rfl
set_option maxRecDepth 20000 in
set_option maxHeartbeats 4000000 in
theorem e_M_centuries_60 (d n : Nat) (l0 : Nat) (l2 : Int) (l3 : Int) (h : IH) :
 lp d 286 (n + 1) 60 [some (iR (some l0)), none, some (iI l2), some (iI l3), none] [] h =
 ((if l3 < l2 then
 xgR h l0 22 2 fun x1 =>
 xB x1 fun a3 =>
 xaI h a3 112 fun x2 =>
 (if x2 < 999 then
 xck h l0 22 <|
 kV (rn d 285 [iR (some l0)] h) fun h4 =>
 xck h4 l0 22 <|
 kV (rn d 234 [iR (some l0)] h4) fun h5 =>
 lp d 286 n 60 [some (iR (some l0)), none, some (iI l2), some (iI (wr (l3 + 1))), none] [] h5
 else
 xck h l0 22 <|
 kI (rn d 226 [iR (some l0)] h) fun x7 h6 =>
 lp d 286 n 100 [some (iR (some l0)), none, none, some (iI x7), some (iI 0)] [] h6)
 else
 xck h l0 22 <|
 kI (rn d 226 [iR (some l0)] h) fun x9 h8 =>
 lp d 286 n 100 [some (iR (some l0)), none, none, some (iI x9), some (iI 0)] [] h8)) := rfl
set_option maxRecDepth 20000 in
set_option maxHeartbeats 4000000 in
theorem e_M_centuries_100 (d n : Nat) (l0 : Nat) (l3 : Int) (l4 : Int) (h : IH) :
 lp d 286 (n + 1) 100 [some (iR (some l0)), none, none, some (iI l3), some (iI l4)] [] h =
 ((if l4 < 113 then
 xgR h l0 22 54 fun x1 =>
 xgR h l0 22 2 fun x2 =>
 xB x2 fun a4 =>
 xaI h a4 l4 fun x3 =>
 xB x1 fun a6 =>
 xsI h a6 l4 x3 fun h5 =>
 lp d 286 n 100 [some (iR (some l0)), none, none, some (iI l3), some (iI (wr (l4 + 1)))] [] h5
 else
 xck h l0 22 <|
 kV (rn d 157 [iR (some l0), iI 0] h) fun h7 =>
 xck h7 l0 22 <|
 kI (rn d 151 [iR (some l0), iI l3] h7) fun x9 h8 =>
 some (oI x9, h8))) := rfl
-- TownSundaysModel.drawn(II)I
theorem r_M_drawn (d : Nat) (l0 : Nat) (l1 : Int) (l2 : Int) (h : IH) : rn (d + 1) 287 [iR (some l0), iI l1, iI l2] h = lp d 287 (999999 + 1) 0 [some (iR (some l0)), some (iI l1), some (iI l2)] [] h := rn_lp rfl rfl
set_option maxRecDepth 20000 in
set_option maxHeartbeats 4000000 in
theorem e_M_drawn (d n : Nat) (l0 : Nat) (l1 : Int) (l2 : Int) (h : IH) :
 lp d 287 (n + 1) 0 [some (iR (some l0)), some (iI l1), some (iI l2)] [] h =
 (xgI h l0 22 55 fun x1 =>
 kI (rn d 147 [iI l1, iI 0, iI (wr (x1 - 1))] h) fun x3 h2 =>
 (if x3 = 0 then
 some (oI (-1), h2)
 else
 kI (rn d 147 [iI l2, iI 0, iI 1] h2) fun x5 h4 =>
 (if x5 = 0 then
 some (oI (-1), h4)
 else
 xgR h4 l0 22 54 fun x6 =>
 (if l2 = 0 then
 xB x6 fun a8 =>
 xaI h4 a8 (wr (0 + l1)) fun x7 =>
 some (oI x7, h4)
 else
 xB x6 fun a10 =>
 xaI h4 a10 (wr (7 + l1)) fun x9 =>
 some (oI x9, h4))))) := rfl
-- TownSundaysModel.roadMany(Z)I
theorem r_M_roadMany (d : Nat) (l0 : Nat) (l1 : Int) (h : IH) : rn (d + 1) 288 [iR (some l0), iI l1] h = lp d 288 (999999 + 1) 0 [some (iR (some l0)), some (iI l1), none, none, none] [] h := rn_lp rfl rfl
set_option maxRecDepth 20000 in
set_option maxHeartbeats 4000000 in
theorem e_M_roadMany (d n : Nat) (l0 : Nat) (l1 : Int) (h : IH) :
 lp d 288 (n + 1) 0 [some (iR (some l0)), some (iI l1), none, none, none] [] h =
 (lp d 288 n 4 [some (iR (some l0)), some (iI l1), some (iI 0), some (iI 0), none] [] h) := rfl
set_option maxRecDepth 20000 in
set_option maxHeartbeats 4000000 in
theorem e_M_roadMany_4 (d n : Nat) (l0 : Nat) (l1 : Int) (l2 : Int) (l3 : Int) (h : IH) :
 lp d 288 (n + 1) 4 [some (iR (some l0)), some (iI l1), some (iI l2), some (iI l3), none] [] h =
 (xck h l0 22 <|
 kI (rn d 160 [iR (some l0)] h) fun x2 h1 =>
 (if l3 < x2 then
 lp d 288 n 17 [some (iR (some l0)), some (iI l1), some (iI l2), some (iI l3), some (iI (wr (l3 + 1)))] [] h1
 else
 some (oI l2, h1))) := rfl
set_option maxRecDepth 20000 in
set_option maxHeartbeats 4000000 in
theorem e_M_roadMany_17 (d n : Nat) (l0 : Nat) (l1 : Int) (l2 : Int) (l3 : Int) (l4 : Int) (h : IH) :
 lp d 288 (n + 1) 17 [some (iR (some l0)), some (iI l1), some (iI l2), some (iI l3), some (iI l4)] [] h =
 (xck h l0 22 <|
 kI (rn d 160 [iR (some l0)] h) fun x2 h1 =>
 (if l4 < x2 then
 xck h1 l0 22 <|
 kI (rn d 168 [iR (some l0), iI l3, iI l4] h1) fun x4 h3 =>
 (if x4 ≤ 0 then
 lp d 288 n 17 [some (iR (some l0)), some (iI l1), some (iI (wr (l2 + 0))), some (iI l3), some (iI (wr (l4 + 1)))] [] h3
 else
 (if l1 = 0 then
 lp d 288 n 17 [some (iR (some l0)), some (iI l1), some (iI (wr (l2 + 1))), some (iI l3), some (iI (wr (l4 + 1)))] [] h3
 else
 xck h3 l0 22 <|
 kI (rn d 169 [iR (some l0), iI l3, iI l4] h3) fun x6 h5 =>
 (if x6 = 0 then
 lp d 288 n 17 [some (iR (some l0)), some (iI l1), some (iI (wr (l2 + 1))), some (iI l3), some (iI (wr (l4 + 1)))] [] h5
 else
 lp d 288 n 17 [some (iR (some l0)), some (iI l1), some (iI (wr (l2 + 0))), some (iI l3), some (iI (wr (l4 + 1)))] [] h5)))
 else
 lp d 288 n 4 [some (iR (some l0)), some (iI l1), some (iI l2), some (iI (wr (l3 + 1))), none] [] h1)) := rfl
-- TownSundaysModel.count(I)I
theorem r_M_count (d : Nat) (l0 : Nat) (l1 : Int) (h : IH) : rn (d + 1) 289 [iR (some l0), iI l1] h = lp d 289 (999999 + 1) 0 [some (iR (some l0)), some (iI l1)] [] h := rn_lp rfl rfl
set_option maxRecDepth 20000 in
set_option maxHeartbeats 4000000 in
theorem e_M_count (d n : Nat) (l0 : Nat) (l1 : Int) (h : IH) :
 lp d 289 (n + 1) 0 [some (iR (some l0)), some (iI l1)] [] h =
 ((if l1 = 0 then
 xck h l0 22 <|
 kI (rn d 160 [iR (some l0)] h) fun x49 h48 =>
 some (oI x49, h48)
 else
 (if l1 = 1 then
 xck h l0 22 <|
 kI (rn d 226 [iR (some l0)] h) fun x47 h46 =>
 some (oI x47, h46)
 else
 (if l1 = 2 then
 xck h l0 22 <|
 kI (rn d 288 [iR (some l0), iI 0] h) fun x45 h44 =>
 some (oI x45, h44)
 else
 (if l1 = 3 then
 xck h l0 22 <|
 kI (rn d 288 [iR (some l0), iI 1] h) fun x43 h42 =>
 some (oI x43, h42)
 else
 (if l1 = 4 then
 xgR h l0 22 2 fun x39 =>
 xB x39 fun a41 =>
 xaI h a41 184 fun x40 =>
 some (oI x40, h)
 else
 (if l1 = 5 then
 xgR h l0 22 2 fun x36 =>
 xB x36 fun a38 =>
 xaI h a38 185 fun x37 =>
 some (oI x37, h)
 else
 (if l1 = 6 then
 xgI h l0 22 31 fun x35 =>
 some (oI x35, h)
 else
 (if l1 = 7 then
 xgI h l0 22 13 fun x34 =>
 some (oI x34, h)
 else
 (if l1 = 8 then
 xgR h l0 22 1 fun x31 =>
 xB x31 fun a33 =>
 xaI h a33 (wr (l1 - 7)) fun x32 =>
 some (oI x32, h)
 else
 (if l1 = 9 then
 xgR h l0 22 1 fun x28 =>
 xB x28 fun a30 =>
 xaI h a30 (wr (l1 - 7)) fun x29 =>
 some (oI x29, h)
 else
 (if l1 = 10 then
 xgR h l0 22 1 fun x25 =>
 xB x25 fun a27 =>
 xaI h a27 (wr (l1 - 7)) fun x26 =>
 some (oI x26, h)
 else
 (if l1 = 11 then
 xgR h l0 22 1 fun x22 =>
 xB x22 fun a24 =>
 xaI h a24 5 fun x23 =>
 some (oI x23, h)
 else
 (if l1 = 12 then
 xgR h l0 22 1 fun x19 =>
 xB x19 fun a21 =>
 xaI h a21 6 fun x20 =>
 some (oI x20, h)
 else
 (if l1 = 13 then
 xgR h l0 22 2 fun x16 =>
 xB x16 fun a18 =>
 xaI h a18 186 fun x17 =>
 some (oI x17, h)
 else
 (if l1 = 14 then
 xgR h l0 22 2 fun x11 =>
 kI (rn d 173 [iI (wr (l1 - 14))] h) fun x13 h12 =>
 xB x11 fun a15 =>
 xaI h12 a15 x13 fun x14 =>
 some (oI x14, h12)
 else
 (if l1 = 15 then
 xgR h l0 22 2 fun x6 =>
 kI (rn d 173 [iI (wr (l1 - 14))] h) fun x8 h7 =>
 xB x6 fun a10 =>
 xaI h7 a10 x8 fun x9 =>
 some (oI x9, h7)
 else
 (if l1 = 16 then
 xgR h l0 22 2 fun x1 =>
 kI (rn d 173 [iI (wr (l1 - 14))] h) fun x3 h2 =>
 xB x1 fun a5 =>
 xaI h2 a5 x3 fun x4 =>
 some (oI x4, h2)
 else
 lp d 289 n 181 [none, none] [] h)))))))))))))))))) := rfl
set_option maxRecDepth 20000 in
set_option maxHeartbeats 4000000 in
theorem e_M_count_181 (d n : Nat)  (h : IH) :
 lp d 289 (n + 1) 181 [none, none] [] h =
 (some (oI (-1), h)) := rfl
-- TownSundaysModel.status()I
theorem r_M_status (d : Nat) (l0 : Nat) (h : IH) : rn (d + 1) 290 [iR (some l0)] h = lp d 290 (999999 + 1) 0 [some (iR (some l0))] [] h := rn_lp rfl rfl
set_option maxRecDepth 20000 in
set_option maxHeartbeats 4000000 in
theorem e_M_status (d n : Nat) (l0 : Nat) (h : IH) :
 lp d 290 (n + 1) 0 [some (iR (some l0))] [] h =
 (xgI h l0 22 0 fun x1 =>
 some (oI x1, h)) := rfl
-- java/lang/Integer.bitCount(I)I
theorem r_Int_bitCount (d : Nat) (l0 : Int) (h : IH) : rn (d + 1) 291 [iI l0] h = lp d 291 (999999 + 1) 0 [some (iI l0)] [] h := rn_lp rfl rfl
set_option maxRecDepth 20000 in
set_option maxHeartbeats 4000000 in
theorem e_Int_bitCount (d n : Nat) (l0 : Int) (h : IH) :
 lp d 291 (n + 1) 0 [some (iI l0)] [] h =
 (some (oI (iand (wr ((wr ((iand (wr ((wr ((iand (wr (l0 - (iand (iushr l0 1) 1431655765))) 858993459) + (iand (iushr (wr (l0 - (iand (iushr l0 1) 1431655765))) 2) 858993459))) + (iushr (wr ((iand (wr (l0 - (iand (iushr l0 1) 1431655765))) 858993459) + (iand (iushr (wr (l0 - (iand (iushr l0 1) 1431655765))) 2) 858993459))) 4))) 252645135) + (iushr (iand (wr ((wr ((iand (wr (l0 - (iand (iushr l0 1) 1431655765))) 858993459) + (iand (iushr (wr (l0 - (iand (iushr l0 1) 1431655765))) 2) 858993459))) + (iushr (wr ((iand (wr (l0 - (iand (iushr l0 1) 1431655765))) 858993459) + (iand (iushr (wr (l0 - (iand (iushr l0 1) 1431655765))) 2) 858993459))) 4))) 252645135) 8))) + (iushr (wr ((iand (wr ((wr ((iand (wr (l0 - (iand (iushr l0 1) 1431655765))) 858993459) + (iand (iushr (wr (l0 - (iand (iushr l0 1) 1431655765))) 2) 858993459))) + (iushr (wr ((iand (wr (l0 - (iand (iushr l0 1) 1431655765))) 858993459) + (iand (iushr (wr (l0 - (iand (iushr l0 1) 1431655765))) 2) 858993459))) 4))) 252645135) + (iushr (iand (wr ((wr ((iand (wr (l0 - (iand (iushr l0 1) 1431655765))) 858993459) + (iand (iushr (wr (l0 - (iand (iushr l0 1) 1431655765))) 2) 858993459))) + (iushr (wr ((iand (wr (l0 - (iand (iushr l0 1) 1431655765))) 858993459) + (iand (iushr (wr (l0 - (iand (iushr l0 1) 1431655765))) 2) 858993459))) 4))) 252645135) 8))) 16))) 63), h)) := rfl
-- java/util/Arrays.fill([JJ)V
theorem r_Arr_fill_0 (d : Nat) (l0 : Option Nat) (l1 : Int) (h : IH) : rn (d + 1) 304 [iR l0, iJ l1] h = lp d 304 (999999 + 1) 0 [some (iR l0), some (iJ l1), none, none, none] [] h := rn_lp rfl rfl
set_option maxRecDepth 20000 in
set_option maxHeartbeats 4000000 in
theorem e_Arr_fill_0 (d n : Nat) (l0 : Option Nat) (l1 : Int) (h : IH) :
 lp d 304 (n + 1) 0 [some (iR l0), some (iJ l1), none, none, none] [] h =
 (xB l0 fun a2 =>
 xle h a2 fun x1 =>
 lp d 304 n 6 [some (iR l0), some (iJ l1), none, some (iI 0), some (iI x1)] [] h) := rfl
set_option maxRecDepth 20000 in
set_option maxHeartbeats 4000000 in
theorem e_Arr_fill_0_6 (d n : Nat) (l0 : Option Nat) (l1 : Int) (l3 : Int) (l4 : Int) (h : IH) :
 lp d 304 (n + 1) 6 [some (iR l0), some (iJ l1), none, some (iI l3), some (iI l4)] [] h =
 ((if l3 < l4 then
 xB l0 fun a2 =>
 xsJ h a2 l3 l1 fun h1 =>
 lp d 304 n 6 [some (iR l0), some (iJ l1), none, some (iI (wr (l3 + 1))), some (iI l4)] [] h1
 else
 some (o0, h))) := rfl
-- java/util/Arrays.fill([II)V
theorem r_Arr_fill_1 (d : Nat) (l0 : Option Nat) (l1 : Int) (h : IH) : rn (d + 1) 305 [iR l0, iI l1] h = lp d 305 (999999 + 1) 0 [some (iR l0), some (iI l1), none, none] [] h := rn_lp rfl rfl
set_option maxRecDepth 20000 in
set_option maxHeartbeats 4000000 in
theorem e_Arr_fill_1 (d n : Nat) (l0 : Option Nat) (l1 : Int) (h : IH) :
 lp d 305 (n + 1) 0 [some (iR l0), some (iI l1), none, none] [] h =
 (xB l0 fun a2 =>
 xle h a2 fun x1 =>
 lp d 305 n 5 [some (iR l0), some (iI l1), some (iI 0), some (iI x1)] [] h) := rfl
set_option maxRecDepth 20000 in
set_option maxHeartbeats 4000000 in
theorem e_Arr_fill_1_5 (d n : Nat) (l0 : Option Nat) (l1 : Int) (l2 : Int) (l3 : Int) (h : IH) :
 lp d 305 (n + 1) 5 [some (iR l0), some (iI l1), some (iI l2), some (iI l3)] [] h =
 ((if l2 < l3 then
 xB l0 fun a2 =>
 xsI h a2 l2 l1 fun h1 =>
 lp d 305 n 5 [some (iR l0), some (iI l1), some (iI (wr (l2 + 1))), some (iI l3)] [] h1
 else
 some (o0, h))) := rfl
