/-! Equations of methods 180 to 229 (by program, wip/whole/gen17.py) -/
-- TownSundaysModel.isDigit(I)Z
theorem r_M_isDigit (d : Nat) (l0 : Int) (h : IH) : rn (d + 1) 180 [iI l0] h = lp d 180 (999999 + 1) 0 [some (iI l0)] [] h := rn_lp rfl rfl
set_option maxRecDepth 20000 in
set_option maxHeartbeats 4000000 in
theorem e_M_isDigit (d n : Nat) (l0 : Int) (h : IH) :
 lp d 180 (n + 1) 0 [some (iI l0)] [] h =
 ((if l0 < 48 then
 xZ 0 h
 else
 (if l0 ≤ 57 then
 xZ 1 h
 else
 xZ 0 h))) := rfl
-- TownSundaysModel.wordOf(II)I
theorem r_M_wordOf (d : Nat) (l0 : Nat) (l1 : Int) (l2 : Int) (h : IH) : rn (d + 1) 181 [iR (some l0), iI l1, iI l2] h = lp d 181 (999999 + 1) 0 [some (iR (some l0)), some (iI l1), some (iI l2), none, none, none, none, none] [] h := rn_lp rfl rfl
set_option maxRecDepth 20000 in
set_option maxHeartbeats 4000000 in
theorem e_M_wordOf (d n : Nat) (l0 : Nat) (l1 : Int) (l2 : Int) (h : IH) :
 lp d 181 (n + 1) 0 [some (iR (some l0)), some (iI l1), some (iI l2), none, none, none, none, none] [] h =
 (lp d 181 n 5 [some (iR (some l0)), some (iI l1), some (iI l2), some (iI 1), some (iI 0), none, none, none] [] h) := rfl
set_option maxRecDepth 20000 in
set_option maxHeartbeats 4000000 in
theorem e_M_wordOf_5 (d n : Nat) (l0 : Nat) (l1 : Int) (l2 : Int) (l3 : Int) (l4 : Int) (h : IH) :
 lp d 181 (n + 1) 5 [some (iR (some l0)), some (iI l1), some (iI l2), some (iI l3), some (iI l4), none, none, none] [] h =
 (xgR h l0 22 7 fun x1 =>
 xB x1 fun a3 =>
 xle h a3 fun x2 =>
 (if l4 < x2 then
 lp d 181 n 18 [some (iR (some l0)), some (iI l1), some (iI l2), some (iI l3), some (iI l4), some (iI 0), none, none] [] h
 else
 some (oI 0, h))) := rfl
set_option maxRecDepth 20000 in
set_option maxHeartbeats 4000000 in
theorem e_M_wordOf_18 (d n : Nat) (l0 : Nat) (l1 : Int) (l2 : Int) (l3 : Int) (l4 : Int) (l5 : Int) (h : IH) :
 lp d 181 (n + 1) 18 [some (iR (some l0)), some (iI l1), some (iI l2), some (iI l3), some (iI l4), some (iI l5), none, none] [] h =
 (xgR h l0 22 7 fun x1 =>
 xB x1 fun a3 =>
 xaB h a3 (wr (l4 + l5)) fun x2 =>
 (if x2 = 32 then
 (if l5 = (wr (l2 - l1)) then
 lp d 181 n 57 [some (iR (some l0)), some (iI l1), some (iI l2), some (iI l3), some (iI l4), some (iI l5), some (iI 1), some (iI 0)] [] h
 else
 lp d 181 n 57 [some (iR (some l0)), some (iI l1), some (iI l2), some (iI l3), some (iI l4), some (iI l5), some (iI 0), some (iI 0)] [] h)
 else
 lp d 181 n 18 [some (iR (some l0)), some (iI l1), some (iI l2), some (iI l3), some (iI l4), some (iI (wr (l5 + 1))), none, none] [] h)) := rfl
set_option maxRecDepth 20000 in
set_option maxHeartbeats 4000000 in
theorem e_M_wordOf_57 (d n : Nat) (l0 : Nat) (l1 : Int) (l2 : Int) (l3 : Int) (l4 : Int) (l5 : Int) (l6 : Int) (l7 : Int) (h : IH) :
 lp d 181 (n + 1) 57 [some (iR (some l0)), some (iI l1), some (iI l2), some (iI l3), some (iI l4), some (iI l5), some (iI l6), some (iI l7)] [] h =
 ((if l7 < l5 then
 (if l6 = 0 then
 lp d 181 n 104 [some (iR (some l0)), some (iI l1), some (iI l2), some (iI l3), some (iI l4), some (iI l5), some (iI l6), none] [] h
 else
 xgR h l0 22 7 fun x1 =>
 xB x1 fun a3 =>
 xaB h a3 (wr (l4 + l7)) fun x2 =>
 xgR h l0 22 11 fun x4 =>
 xB x4 fun a6 =>
 xaB h a6 (wr (l1 + l7)) fun x5 =>
 (if x2 = x5 then
 lp d 181 n 57 [some (iR (some l0)), some (iI l1), some (iI l2), some (iI l3), some (iI l4), some (iI l5), some (iI 1), some (iI (wr (l7 + 1)))] [] h
 else
 lp d 181 n 57 [some (iR (some l0)), some (iI l1), some (iI l2), some (iI l3), some (iI l4), some (iI l5), some (iI 0), some (iI (wr (l7 + 1)))] [] h))
 else
 lp d 181 n 104 [some (iR (some l0)), some (iI l1), some (iI l2), some (iI l3), some (iI l4), some (iI l5), some (iI l6), none] [] h)) := rfl
set_option maxRecDepth 20000 in
set_option maxHeartbeats 4000000 in
theorem e_M_wordOf_104 (d n : Nat) (l0 : Nat) (l1 : Int) (l2 : Int) (l3 : Int) (l4 : Int) (l5 : Int) (l6 : Int) (h : IH) :
 lp d 181 (n + 1) 104 [some (iR (some l0)), some (iI l1), some (iI l2), some (iI l3), some (iI l4), some (iI l5), some (iI l6), none] [] h =
 ((if l6 = 0 then
 lp d 181 n 5 [some (iR (some l0)), some (iI l1), some (iI l2), some (iI (wr (l3 + 1))), some (iI (wr (l4 + (wr (l5 + 1))))), none, none, none] [] h
 else
 some (oI l3, h))) := rfl
-- TownSundaysModel.splits(I)V
theorem r_M_splits (d : Nat) (l0 : Nat) (l1 : Int) (h : IH) : rn (d + 1) 182 [iR (some l0), iI l1] h = lp d 182 (999999 + 1) 0 [some (iR (some l0)), some (iI l1), none, none, none, none] [] h := rn_lp rfl rfl
set_option maxRecDepth 20000 in
set_option maxHeartbeats 4000000 in
theorem e_M_splits (d n : Nat) (l0 : Nat) (l1 : Int) (h : IH) :
 lp d 182 (n + 1) 0 [some (iR (some l0)), some (iI l1), none, none, none, none] [] h =
 (xpI h l0 22 18 0 fun h1 =>
 lp d 182 n 7 [some (iR (some l0)), some (iI l1), some (iI 0), none, none, none] [] h1) := rfl
set_option maxRecDepth 20000 in
set_option maxHeartbeats 4000000 in
theorem e_M_splits_7 (d n : Nat) (l0 : Nat) (l1 : Int) (l2 : Int) (h : IH) :
 lp d 182 (n + 1) 7 [some (iR (some l0)), some (iI l1), some (iI l2), none, none, none] [] h =
 ((if l2 < l1 then
 xgR h l0 22 11 fun x1 =>
 xB x1 fun a3 =>
 xaB h a3 l2 fun x2 =>
 (if x2 = 32 then
 lp d 182 n 7 [some (iR (some l0)), some (iI l1), some (iI (wr (l2 + 1))), none, none, none] [] h
 else
 kI (rn d 179 [iI x2] h) fun x5 h4 =>
 (if x5 = 0 then
 kI (rn d 180 [iI x2] h4) fun x7 h6 =>
 (if x7 = 0 then
 lp d 182 n 100 [some (iR (some l0)), some (iI l1), some (iI l2), some (iI x2), some (iI (wr (l2 + 1))), none] [] h6
 else
 lp d 182 n 75 [some (iR (some l0)), some (iI l1), some (iI l2), some (iI x2), some (iI (wr (l2 + 1))), none] [] h6)
 else
 lp d 182 n 43 [some (iR (some l0)), some (iI l1), some (iI l2), some (iI x2), some (iI (wr (l2 + 1))), none] [] h4))
 else
 xgR h l0 22 17 fun x8 =>
 xgI h l0 22 18 fun x9 =>
 xB x8 fun a11 =>
 xsI h a11 x9 l1 fun h10 =>
 xgR h10 l0 22 15 fun x12 =>
 xgI h10 l0 22 18 fun x13 =>
 xB x12 fun a15 =>
 xsI h10 a15 x13 0 fun h14 =>
 lp d 182 n 283 [some (iR (some l0)), none, none, none, none, none] [] h14)) := rfl
set_option maxRecDepth 20000 in
set_option maxHeartbeats 4000000 in
theorem e_M_splits_43 (d n : Nat) (l0 : Nat) (l1 : Int) (l2 : Int) (l3 : Int) (l4 : Int) (h : IH) :
 lp d 182 (n + 1) 43 [some (iR (some l0)), some (iI l1), some (iI l2), some (iI l3), some (iI l4), none] [] h =
 ((if l4 < l1 then
 xgR h l0 22 11 fun x1 =>
 xB x1 fun a3 =>
 xaB h a3 l4 fun x2 =>
 kI (rn d 179 [iI x2] h) fun x5 h4 =>
 (if x5 = 0 then
 kI (rn d 180 [iI l3] h4) fun x7 h6 =>
 (if x7 = 0 then
 lp d 182 n 100 [some (iR (some l0)), some (iI l1), some (iI l2), some (iI l3), some (iI l4), none] [] h6
 else
 lp d 182 n 75 [some (iR (some l0)), some (iI l1), some (iI l2), some (iI l3), some (iI l4), none] [] h6)
 else
 lp d 182 n 43 [some (iR (some l0)), some (iI l1), some (iI l2), some (iI l3), some (iI (wr (l4 + 1))), none] [] h4)
 else
 kI (rn d 180 [iI l3] h) fun x9 h8 =>
 (if x9 = 0 then
 lp d 182 n 100 [some (iR (some l0)), some (iI l1), some (iI l2), some (iI l3), some (iI l4), none] [] h8
 else
 lp d 182 n 75 [some (iR (some l0)), some (iI l1), some (iI l2), some (iI l3), some (iI l4), none] [] h8))) := rfl
set_option maxRecDepth 20000 in
set_option maxHeartbeats 4000000 in
theorem e_M_splits_75 (d n : Nat) (l0 : Nat) (l1 : Int) (l2 : Int) (l3 : Int) (l4 : Int) (h : IH) :
 lp d 182 (n + 1) 75 [some (iR (some l0)), some (iI l1), some (iI l2), some (iI l3), some (iI l4), none] [] h =
 ((if l4 < l1 then
 xgR h l0 22 11 fun x1 =>
 xB x1 fun a3 =>
 xaB h a3 l4 fun x2 =>
 kI (rn d 180 [iI x2] h) fun x5 h4 =>
 (if x5 = 0 then
 lp d 182 n 100 [some (iR (some l0)), some (iI l1), some (iI l2), some (iI l3), some (iI l4), none] [] h4
 else
 lp d 182 n 75 [some (iR (some l0)), some (iI l1), some (iI l2), some (iI l3), some (iI (wr (l4 + 1))), none] [] h4)
 else
 lp d 182 n 100 [some (iR (some l0)), some (iI l1), some (iI l2), some (iI l3), some (iI l4), none] [] h)) := rfl
set_option maxRecDepth 20000 in
set_option maxHeartbeats 4000000 in
theorem e_M_splits_100 (d n : Nat) (l0 : Nat) (l1 : Int) (l2 : Int) (l3 : Int) (l4 : Int) (h : IH) :
 lp d 182 (n + 1) 100 [some (iR (some l0)), some (iI l1), some (iI l2), some (iI l3), some (iI l4), none] [] h =
 (xgR h l0 22 17 fun x1 =>
 xgI h l0 22 18 fun x2 =>
 xB x1 fun a4 =>
 xsI h a4 x2 l2 fun h3 =>
 xgR h3 l0 22 16 fun x5 =>
 xgI h3 l0 22 18 fun x6 =>
 xB x5 fun a8 =>
 xsI h3 a8 x6 0 fun h7 =>
 xgR h7 l0 22 15 fun x9 =>
 xgI h7 l0 22 18 fun x10 =>
 kI (rn d 179 [iI l3] h7) fun x12 h11 =>
 (if x12 = 0 then
 kI (rn d 180 [iI l3] h11) fun x14 h13 =>
 (if x14 = 0 then
 xB x9 fun a16 =>
 xsI h13 a16 x10 (wr (100 + (iand l3 255))) fun h15 =>
 lp d 182 n 169 [some (iR (some l0)), some (iI l1), none, some (iI l3), some (iI l4), some (iI l2)] [] h15
 else
 xB x9 fun a18 =>
 xsI h13 a18 x10 50 fun h17 =>
 lp d 182 n 169 [some (iR (some l0)), some (iI l1), none, some (iI l3), some (iI l4), some (iI l2)] [] h17)
 else
 xck h11 l0 22 <|
 kI (rn d 181 [iR (some l0), iI l2, iI l4] h11) fun x20 h19 =>
 xB x9 fun a22 =>
 xsI h19 a22 x10 x20 fun h21 =>
 lp d 182 n 169 [some (iR (some l0)), some (iI l1), none, some (iI l3), some (iI l4), some (iI l2)] [] h21)) := rfl
set_option maxRecDepth 20000 in
set_option maxHeartbeats 4000000 in
theorem e_M_splits_169 (d n : Nat) (l0 : Nat) (l1 : Int) (l3 : Int) (l4 : Int) (l5 : Int) (h : IH) :
 lp d 182 (n + 1) 169 [some (iR (some l0)), some (iI l1), none, some (iI l3), some (iI l4), some (iI l5)] [] h =
 ((if l5 < l4 then
 kI (rn d 180 [iI l3] h) fun x2 h1 =>
 (if x2 = 0 then
 xgI h1 l0 22 18 fun x3 =>
 xpI h1 l0 22 18 (wr (x3 + 1)) fun h4 =>
 lp d 182 n 7 [some (iR (some l0)), some (iI l1), some (iI l4), none, none, none] [] h4
 else
 xgR h1 l0 22 16 fun x5 =>
 xgI h1 l0 22 18 fun x6 =>
 xgR h1 l0 22 16 fun x7 =>
 xgI h1 l0 22 18 fun x8 =>
 xB x7 fun a10 =>
 xaI h1 a10 x8 fun x9 =>
 (if x9 ≤ 1000000 then
 xgR h1 l0 22 16 fun x11 =>
 xgI h1 l0 22 18 fun x12 =>
 xB x11 fun a14 =>
 xaI h1 a14 x12 fun x13 =>
 xgR h1 l0 22 11 fun x15 =>
 xB x15 fun a17 =>
 xaB h1 a17 l5 fun x16 =>
 xB x5 fun a19 =>
 xsI h1 a19 x6 (wr ((wr ((wr (10 * x13)) + x16)) - 48)) fun h18 =>
 lp d 182 n 169 [some (iR (some l0)), some (iI l1), none, some (iI l3), some (iI l4), some (iI (wr (l5 + 1)))] [] h18
 else
 xgR h1 l0 22 16 fun x20 =>
 xgI h1 l0 22 18 fun x21 =>
 xB x20 fun a23 =>
 xaI h1 a23 x21 fun x22 =>
 xB x5 fun a25 =>
 xsI h1 a25 x6 x22 fun h24 =>
 lp d 182 n 169 [some (iR (some l0)), some (iI l1), none, some (iI l3), some (iI l4), some (iI (wr (l5 + 1)))] [] h24))
 else
 xgI h l0 22 18 fun x26 =>
 xpI h l0 22 18 (wr (x26 + 1)) fun h27 =>
 lp d 182 n 7 [some (iR (some l0)), some (iI l1), some (iI l4), none, none, none] [] h27)) := rfl
set_option maxRecDepth 20000 in
set_option maxHeartbeats 4000000 in
theorem e_M_splits_283 (d n : Nat) (l0 : Nat) (h : IH) :
 lp d 182 (n + 1) 283 [some (iR (some l0)), none, none, none, none, none] [] h =
 (xgR h l0 22 16 fun x1 =>
 xgI h l0 22 18 fun x2 =>
 xB x1 fun a4 =>
 xsI h a4 x2 0 fun h3 =>
 some (o0, h3)) := rfl
-- TownSundaysModel.fine()Z
theorem r_M_fine (d : Nat) (l0 : Nat) (h : IH) : rn (d + 1) 183 [iR (some l0)] h = lp d 183 (999999 + 1) 0 [some (iR (some l0))] [] h := rn_lp rfl rfl
set_option maxRecDepth 20000 in
set_option maxHeartbeats 4000000 in
theorem e_M_fine (d n : Nat) (l0 : Nat) (h : IH) :
 lp d 183 (n + 1) 0 [some (iR (some l0))] [] h =
 (xgI h l0 22 21 fun x1 =>
 (if x1 = (-1) then
 xZ 1 h
 else
 xZ 0 h)) := rfl
-- TownSundaysModel.faults()V
theorem r_M_faults (d : Nat) (l0 : Nat) (h : IH) : rn (d + 1) 184 [iR (some l0)] h = lp d 184 (999999 + 1) 0 [some (iR (some l0))] [] h := rn_lp rfl rfl
set_option maxRecDepth 20000 in
set_option maxHeartbeats 4000000 in
theorem e_M_faults (d n : Nat) (l0 : Nat) (h : IH) :
 lp d 184 (n + 1) 0 [some (iR (some l0))] [] h =
 (xck h l0 22 <|
 kI (rn d 183 [iR (some l0)] h) fun x2 h1 =>
 (if x2 = 0 then
 some (o0, h1)
 else
 xgR h1 l0 22 17 fun x3 =>
 xgI h1 l0 22 19 fun x4 =>
 xB x3 fun a6 =>
 xaI h1 a6 x4 fun x5 =>
 xpI h1 l0 22 21 x5 fun h7 =>
 some (o0, h7))) := rfl
-- TownSundaysModel.takes0(I)Z
theorem r_M_takes0 (d : Nat) (l0 : Nat) (l1 : Int) (h : IH) : rn (d + 1) 185 [iR (some l0), iI l1] h = lp d 185 (999999 + 1) 0 [some (iR (some l0)), some (iI l1), none] [] h := rn_lp rfl rfl
set_option maxRecDepth 20000 in
set_option maxHeartbeats 4000000 in
theorem e_M_takes0 (d n : Nat) (l0 : Nat) (l1 : Int) (h : IH) :
 lp d 185 (n + 1) 0 [some (iR (some l0)), some (iI l1), none] [] h =
 (xck h l0 22 <|
 kI (rn d 183 [iR (some l0)] h) fun x2 h1 =>
 (if x2 = 0 then
 (if 0 = 0 then
 xZ 0 h1
 else
 xgI h1 l0 22 19 fun x3 =>
 xpI h1 l0 22 19 (wr (x3 + 1)) fun h4 =>
 xZ 0 h4)
 else
 xgR h1 l0 22 15 fun x5 =>
 xgI h1 l0 22 19 fun x6 =>
 xB x5 fun a8 =>
 xaI h1 a8 x6 fun x7 =>
 (if x7 = l1 then
 (if 1 = 0 then
 xZ 1 h1
 else
 xgI h1 l0 22 19 fun x9 =>
 xpI h1 l0 22 19 (wr (x9 + 1)) fun h10 =>
 xZ 1 h10)
 else
 (if 0 = 0 then
 xZ 0 h1
 else
 xgI h1 l0 22 19 fun x11 =>
 xpI h1 l0 22 19 (wr (x11 + 1)) fun h12 =>
 xZ 0 h12)))) := rfl
-- TownSundaysModel.must(I)V
theorem r_M_must (d : Nat) (l0 : Nat) (l1 : Int) (h : IH) : rn (d + 1) 186 [iR (some l0), iI l1] h = lp d 186 (999999 + 1) 0 [some (iR (some l0)), some (iI l1)] [] h := rn_lp rfl rfl
set_option maxRecDepth 20000 in
set_option maxHeartbeats 4000000 in
theorem e_M_must (d n : Nat) (l0 : Nat) (l1 : Int) (h : IH) :
 lp d 186 (n + 1) 0 [some (iR (some l0)), some (iI l1)] [] h =
 (xck h l0 22 <|
 kI (rn d 185 [iR (some l0), iI l1] h) fun x2 h1 =>
 (if x2 = 0 then
 xck h1 l0 22 <|
 kV (rn d 184 [iR (some l0)] h1) fun h3 =>
 some (o0, h3)
 else
 some (o0, h1))) := rfl
-- TownSundaysModel.leaf()V
theorem r_M_leaf (d : Nat) (l0 : Nat) (h : IH) : rn (d + 1) 187 [iR (some l0)] h = lp d 187 (999999 + 1) 0 [some (iR (some l0))] [] h := rn_lp rfl rfl
set_option maxRecDepth 20000 in
set_option maxHeartbeats 4000000 in
theorem e_M_leaf (d n : Nat) (l0 : Nat) (h : IH) :
 lp d 187 (n + 1) 0 [some (iR (some l0))] [] h =
 (xgI h l0 22 20 fun x1 =>
 (if x1 = 50 then
 xck h l0 22 <|
 kV (rn d 184 [iR (some l0)] h) fun h2 =>
 xgI h2 l0 22 20 fun x3 =>
 xpI h2 l0 22 20 (wr (x3 + 1)) fun h4 =>
 xck h4 l0 22 <|
 kI (rn d 183 [iR (some l0)] h4) fun x6 h5 =>
 (if x6 = 0 then
 some (o0, h5)
 else
 xgI h5 l0 22 19 fun x7 =>
 xpI h5 l0 22 19 (wr (x7 + 1)) fun h8 =>
 some (o0, h8))
 else
 xgI h l0 22 20 fun x9 =>
 xpI h l0 22 20 (wr (x9 + 1)) fun h10 =>
 xck h10 l0 22 <|
 kI (rn d 183 [iR (some l0)] h10) fun x12 h11 =>
 (if x12 = 0 then
 some (o0, h11)
 else
 xgI h11 l0 22 19 fun x13 =>
 xpI h11 l0 22 19 (wr (x13 + 1)) fun h14 =>
 some (o0, h14)))) := rfl
-- TownSundaysModel.sign(C)I
theorem r_M_sign (d : Nat) (l0 : Int) (h : IH) : rn (d + 1) 188 [iI l0] h = lp d 188 (999999 + 1) 0 [some (iI l0)] [] h := rn_lp rfl rfl
set_option maxRecDepth 20000 in
set_option maxHeartbeats 4000000 in
theorem e_M_sign (d n : Nat) (l0 : Int) (h : IH) :
 lp d 188 (n + 1) 0 [some (iI l0)] [] h =
 (some (oI (wr (100 + l0)), h)) := rfl
-- TownSundaysModel.mustNumber(II)V
theorem r_M_mustNumber (d : Nat) (l0 : Nat) (l1 : Int) (l2 : Int) (h : IH) : rn (d + 1) 189 [iR (some l0), iI l1, iI l2] h = lp d 189 (999999 + 1) 0 [some (iR (some l0)), some (iI l1), some (iI l2)] [] h := rn_lp rfl rfl
set_option maxRecDepth 20000 in
set_option maxHeartbeats 4000000 in
theorem e_M_mustNumber (d n : Nat) (l0 : Nat) (l1 : Int) (l2 : Int) (h : IH) :
 lp d 189 (n + 1) 0 [some (iR (some l0)), some (iI l1), some (iI l2)] [] h =
 (xck h l0 22 <|
 kI (rn d 183 [iR (some l0)] h) fun x2 h1 =>
 (if x2 = 0 then
 xck h1 l0 22 <|
 kI (rn d 183 [iR (some l0)] h1) fun x4 h3 =>
 (if x4 = 0 then
 some (o0, h3)
 else
 xgI h3 l0 22 19 fun x5 =>
 xpI h3 l0 22 19 (wr (x5 + 1)) fun h6 =>
 some (o0, h6))
 else
 xgR h1 l0 22 15 fun x7 =>
 xgI h1 l0 22 19 fun x8 =>
 xB x7 fun a10 =>
 xaI h1 a10 x8 fun x9 =>
 (if x9 = 50 then
 xgR h1 l0 22 16 fun x11 =>
 xgI h1 l0 22 19 fun x12 =>
 xB x11 fun a14 =>
 xaI h1 a14 x12 fun x13 =>
 kI (rn d 147 [iI x13, iI l1, iI l2] h1) fun x16 h15 =>
 (if x16 = 0 then
 xck h15 l0 22 <|
 kV (rn d 184 [iR (some l0)] h15) fun h17 =>
 xck h17 l0 22 <|
 kI (rn d 183 [iR (some l0)] h17) fun x19 h18 =>
 (if x19 = 0 then
 some (o0, h18)
 else
 xgI h18 l0 22 19 fun x20 =>
 xpI h18 l0 22 19 (wr (x20 + 1)) fun h21 =>
 some (o0, h21))
 else
 xck h15 l0 22 <|
 kI (rn d 183 [iR (some l0)] h15) fun x23 h22 =>
 (if x23 = 0 then
 some (o0, h22)
 else
 xgI h22 l0 22 19 fun x24 =>
 xpI h22 l0 22 19 (wr (x24 + 1)) fun h25 =>
 some (o0, h25)))
 else
 xck h1 l0 22 <|
 kV (rn d 184 [iR (some l0)] h1) fun h26 =>
 xck h26 l0 22 <|
 kI (rn d 183 [iR (some l0)] h26) fun x28 h27 =>
 (if x28 = 0 then
 some (o0, h27)
 else
 xgI h27 l0 22 19 fun x29 =>
 xpI h27 l0 22 19 (wr (x29 + 1)) fun h30 =>
 some (o0, h30))))) := rfl
-- TownSundaysModel.readClause()V
theorem r_M_readClause (d : Nat) (l0 : Nat) (h : IH) : rn (d + 1) 190 [iR (some l0)] h = lp d 190 (999999 + 1) 0 [some (iR (some l0))] [] h := rn_lp rfl rfl
set_option maxRecDepth 20000 in
set_option maxHeartbeats 4000000 in
theorem e_M_readClause (d n : Nat) (l0 : Nat) (h : IH) :
 lp d 190 (n + 1) 0 [some (iR (some l0))] [] h =
 (xck h l0 22 <|
 kI (rn d 185 [iR (some l0), iI 1] h) fun x2 h1 =>
 (if x2 = 0 then
 xck h1 l0 22 <|
 kI (rn d 185 [iR (some l0), iI 2] h1) fun x4 h3 =>
 (if x4 = 0 then
 xck h3 l0 22 <|
 kV (rn d 186 [iR (some l0), iI 3] h3) fun h5 =>
 xck h5 l0 22 <|
 kI (rn d 185 [iR (some l0), iI 4] h5) fun x7 h6 =>
 (if x7 = 0 then
 some (o0, h6)
 else
 xck h6 l0 22 <|
 kV (rn d 194 [iR (some l0), iI 0] h6) fun h8 =>
 some (o0, h8))
 else
 xck h3 l0 22 <|
 kV (rn d 197 [iR (some l0), iI 0] h3) fun h9 =>
 xck h9 l0 22 <|
 kI (rn d 185 [iR (some l0), iI 4] h9) fun x11 h10 =>
 (if x11 = 0 then
 some (o0, h10)
 else
 xck h10 l0 22 <|
 kV (rn d 194 [iR (some l0), iI 0] h10) fun h12 =>
 some (o0, h12)))
 else
 xck h1 l0 22 <|
 kV (rn d 197 [iR (some l0), iI 0] h1) fun h13 =>
 xck h13 l0 22 <|
 kI (rn d 185 [iR (some l0), iI 4] h13) fun x15 h14 =>
 (if x15 = 0 then
 some (o0, h14)
 else
 xck h14 l0 22 <|
 kV (rn d 194 [iR (some l0), iI 0] h14) fun h16 =>
 some (o0, h16)))) := rfl
-- TownSundaysModel.readBehind(I)V
theorem r_M_readBehind (d : Nat) (l0 : Nat) (l1 : Int) (h : IH) : rn (d + 1) 191 [iR (some l0), iI l1] h = lp d 191 (999999 + 1) 0 [some (iR (some l0)), some (iI l1)] [] h := rn_lp rfl rfl
set_option maxRecDepth 20000 in
set_option maxHeartbeats 4000000 in
theorem e_M_readBehind (d n : Nat) (l0 : Nat) (l1 : Int) (h : IH) :
 lp d 191 (n + 1) 0 [some (iR (some l0)), some (iI l1)] [] h =
 (xck h l0 22 <|
 kV (rn d 186 [iR (some l0), iI l1] h) fun h1 =>
 xck h1 l0 22 <|
 kV (rn d 197 [iR (some l0), iI 0] h1) fun h2 =>
 some (o0, h2)) := rfl
-- TownSundaysModel.readOrder()V
theorem r_M_readOrder (d : Nat) (l0 : Nat) (h : IH) : rn (d + 1) 192 [iR (some l0)] h = lp d 192 (999999 + 1) 0 [some (iR (some l0))] [] h := rn_lp rfl rfl
set_option maxRecDepth 20000 in
set_option maxHeartbeats 4000000 in
theorem e_M_readOrder (d n : Nat) (l0 : Nat) (h : IH) :
 lp d 192 (n + 1) 0 [some (iR (some l0))] [] h =
 (xck h l0 22 <|
 kI (rn d 185 [iR (some l0), iI 21] h) fun x2 h1 =>
 (if x2 = 0 then
 xck h1 l0 22 <|
 kI (rn d 185 [iR (some l0), iI 23] h1) fun x4 h3 =>
 (if x4 = 0 then
 xck h3 l0 22 <|
 kI (rn d 185 [iR (some l0), iI 25] h3) fun x6 h5 =>
 (if x6 = 0 then
 xck h5 l0 22 <|
 kV (rn d 186 [iR (some l0), iI 26] h5) fun h7 =>
 lp d 192 n 81 [some (iR (some l0))] [] h7
 else
 xck h5 l0 22 <|
 kV (rn d 197 [iR (some l0), iI 0] h5) fun h8 =>
 xck h8 l0 22 <|
 kV (rn d 191 [iR (some l0), iI 24] h8) fun h9 =>
 lp d 192 n 81 [some (iR (some l0))] [] h9)
 else
 xck h3 l0 22 <|
 kV (rn d 197 [iR (some l0), iI 0] h3) fun h10 =>
 xck h10 l0 22 <|
 kV (rn d 191 [iR (some l0), iI 24] h10) fun h11 =>
 xck h11 l0 22 <|
 kV (rn d 191 [iR (some l0), iI 24] h11) fun h12 =>
 lp d 192 n 81 [some (iR (some l0))] [] h12)
 else
 xck h1 l0 22 <|
 kV (rn d 197 [iR (some l0), iI 0] h1) fun h13 =>
 xck h13 l0 22 <|
 kV (rn d 191 [iR (some l0), iI 22] h13) fun h14 =>
 lp d 192 n 81 [some (iR (some l0))] [] h14)) := rfl
set_option maxRecDepth 20000 in
set_option maxHeartbeats 4000000 in
theorem e_M_readOrder_81 (d n : Nat) (l0 : Nat) (h : IH) :
 lp d 192 (n + 1) 81 [some (iR (some l0))] [] h =
 (xck h l0 22 <|
 kI (rn d 185 [iR (some l0), iI 27] h) fun x2 h1 =>
 (if x2 = 0 then
 xck h1 l0 22 <|
 kI (rn d 185 [iR (some l0), iI 4] h1) fun x4 h3 =>
 (if x4 = 0 then
 some (o0, h3)
 else
 xck h3 l0 22 <|
 kV (rn d 194 [iR (some l0), iI 0] h3) fun h5 =>
 some (o0, h5))
 else
 xck h1 l0 22 <|
 kV (rn d 189 [iR (some l0), iI 1, iI 20] h1) fun h6 =>
 xck h6 l0 22 <|
 kI (rn d 185 [iR (some l0), iI 4] h6) fun x8 h7 =>
 (if x8 = 0 then
 some (o0, h7)
 else
 xck h7 l0 22 <|
 kV (rn d 194 [iR (some l0), iI 0] h7) fun h9 =>
 some (o0, h9)))) := rfl
-- TownSundaysModel.readOne()V
theorem r_M_readOne (d : Nat) (l0 : Nat) (h : IH) : rn (d + 1) 193 [iR (some l0)] h = lp d 193 (999999 + 1) 0 [some (iR (some l0))] [] h := rn_lp rfl rfl
set_option maxRecDepth 20000 in
set_option maxHeartbeats 4000000 in
theorem e_M_readOne (d n : Nat) (l0 : Nat) (h : IH) :
 lp d 193 (n + 1) 0 [some (iR (some l0))] [] h =
 (xgI h l0 22 10 fun x1 =>
 (if x1 = 0 then
 xck h l0 22 <|
 kV (rn d 190 [iR (some l0)] h) fun h2 =>
 some (o0, h2)
 else
 xck h l0 22 <|
 kV (rn d 192 [iR (some l0)] h) fun h3 =>
 some (o0, h3))) := rfl
-- TownSundaysModel.readTest(I)V
theorem r_M_readTest (d : Nat) (l0 : Nat) (l1 : Int) (h : IH) : rn (d + 1) 194 [iR (some l0), iI l1] h = lp d 194 (999999 + 1) 0 [some (iR (some l0)), some (iI l1)] [] h := rn_lp rfl rfl
set_option maxRecDepth 20000 in
set_option maxHeartbeats 4000000 in
theorem e_M_readTest (d n : Nat) (l0 : Nat) (l1 : Int) (h : IH) :
 lp d 194 (n + 1) 0 [some (iR (some l0)), some (iI l1)] [] h =
 (xck h l0 22 <|
 kV (rn d 195 [iR (some l0), iI l1] h) fun h1 =>
 lp d 194 n 5 [some (iR (some l0)), some (iI l1)] [] h1) := rfl
set_option maxRecDepth 20000 in
set_option maxHeartbeats 4000000 in
theorem e_M_readTest_5 (d n : Nat) (l0 : Nat) (l1 : Int) (h : IH) :
 lp d 194 (n + 1) 5 [some (iR (some l0)), some (iI l1)] [] h =
 (xck h l0 22 <|
 kI (rn d 185 [iR (some l0), iI 5] h) fun x2 h1 =>
 (if x2 = 0 then
 some (o0, h1)
 else
 xck h1 l0 22 <|
 kV (rn d 195 [iR (some l0), iI l1] h1) fun h3 =>
 lp d 194 n 5 [some (iR (some l0)), some (iI l1)] [] h3)) := rfl
-- TownSundaysModel.readBoth(I)V
theorem r_M_readBoth (d : Nat) (l0 : Nat) (l1 : Int) (h : IH) : rn (d + 1) 195 [iR (some l0), iI l1] h = lp d 195 (999999 + 1) 0 [some (iR (some l0)), some (iI l1)] [] h := rn_lp rfl rfl
set_option maxRecDepth 20000 in
set_option maxHeartbeats 4000000 in
theorem e_M_readBoth (d n : Nat) (l0 : Nat) (l1 : Int) (h : IH) :
 lp d 195 (n + 1) 0 [some (iR (some l0)), some (iI l1)] [] h =
 (xck h l0 22 <|
 kV (rn d 196 [iR (some l0), iI l1] h) fun h1 =>
 lp d 195 n 5 [some (iR (some l0)), some (iI l1)] [] h1) := rfl
set_option maxRecDepth 20000 in
set_option maxHeartbeats 4000000 in
theorem e_M_readBoth_5 (d n : Nat) (l0 : Nat) (l1 : Int) (h : IH) :
 lp d 195 (n + 1) 5 [some (iR (some l0)), some (iI l1)] [] h =
 (xck h l0 22 <|
 kI (rn d 185 [iR (some l0), iI 6] h) fun x2 h1 =>
 (if x2 = 0 then
 some (o0, h1)
 else
 xck h1 l0 22 <|
 kV (rn d 196 [iR (some l0), iI l1] h1) fun h3 =>
 lp d 195 n 5 [some (iR (some l0)), some (iI l1)] [] h3)) := rfl
-- TownSundaysModel.readPlain(I)V
theorem r_M_readPlain (d : Nat) (l0 : Nat) (l1 : Int) (h : IH) : rn (d + 1) 196 [iR (some l0), iI l1] h = lp d 196 (999999 + 1) 0 [some (iR (some l0)), some (iI l1), none, none] [] h := rn_lp rfl rfl
set_option maxRecDepth 20000 in
set_option maxHeartbeats 4000000 in
theorem e_M_readPlain (d n : Nat) (l0 : Nat) (l1 : Int) (h : IH) :
 lp d 196 (n + 1) 0 [some (iR (some l0)), some (iI l1), none, none] [] h =
 (lp d 196 n 2 [some (iR (some l0)), some (iI l1), some (iI 1), none] [] h) := rfl
set_option maxRecDepth 20000 in
set_option maxHeartbeats 4000000 in
theorem e_M_readPlain_2 (d n : Nat) (l0 : Nat) (l1 : Int) (l2 : Int) (h : IH) :
 lp d 196 (n + 1) 2 [some (iR (some l0)), some (iI l1), some (iI l2), none] [] h =
 ((if l2 = 0 then
 xck h l0 22 <|
 kI (rn d 183 [iR (some l0)] h) fun x2 h1 =>
 (if x2 = 0 then
 some (o0, h1)
 else
 xgR h1 l0 22 15 fun x3 =>
 xgI h1 l0 22 19 fun x4 =>
 xB x3 fun a6 =>
 xaI h1 a6 x4 fun x5 =>
 kI (rn d 188 [iI 40] h1) fun x8 h7 =>
 (if x5 = x8 then
 (if l1 = 8 then
 xck h7 l0 22 <|
 kV (rn d 184 [iR (some l0)] h7) fun h9 =>
 xck h9 l0 22 <|
 kI (rn d 183 [iR (some l0)] h9) fun x11 h10 =>
 (if x11 = 0 then
 some (o0, h10)
 else
 xgI h10 l0 22 19 fun x12 =>
 xpI h10 l0 22 19 (wr (x12 + 1)) fun h13 =>
 xck h13 l0 22 <|
 kV (rn d 194 [iR (some l0), iI (wr (l1 + 1))] h13) fun h14 =>
 kI (rn d 188 [iI 41] h14) fun x16 h15 =>
 xck h15 l0 22 <|
 kV (rn d 186 [iR (some l0), iI x16] h15) fun h17 =>
 some (o0, h17))
 else
 xck h7 l0 22 <|
 kI (rn d 183 [iR (some l0)] h7) fun x19 h18 =>
 (if x19 = 0 then
 some (o0, h18)
 else
 xgI h18 l0 22 19 fun x20 =>
 xpI h18 l0 22 19 (wr (x20 + 1)) fun h21 =>
 xck h21 l0 22 <|
 kV (rn d 194 [iR (some l0), iI (wr (l1 + 1))] h21) fun h22 =>
 kI (rn d 188 [iI 41] h22) fun x24 h23 =>
 xck h23 l0 22 <|
 kV (rn d 186 [iR (some l0), iI x24] h23) fun h25 =>
 some (o0, h25)))
 else
 xck h7 l0 22 <|
 kV (rn d 197 [iR (some l0), iI l1] h7) fun h26 =>
 kI (rn d 188 [iI 60] h26) fun x28 h27 =>
 xck h27 l0 22 <|
 kI (rn d 185 [iR (some l0), iI x28] h27) fun x30 h29 =>
 (if x30 = 0 then
 kI (rn d 188 [iI 62] h29) fun x32 h31 =>
 xck h31 l0 22 <|
 kI (rn d 185 [iR (some l0), iI x32] h31) fun x34 h33 =>
 (if x34 = 0 then
 lp d 196 n 120 [some (iR (some l0)), some (iI l1), none, none] [iR (some l0)] h33
 else
 xck h33 l0 22 <|
 kV (rn d 197 [iR (some l0), iI l1] h33) fun h35 =>
 some (o0, h35))
 else
 xck h29 l0 22 <|
 kV (rn d 197 [iR (some l0), iI l1] h29) fun h36 =>
 some (o0, h36))))
 else
 xck h l0 22 <|
 kI (rn d 185 [iR (some l0), iI 7] h) fun x38 h37 =>
 lp d 196 n 2 [some (iR (some l0)), some (iI l1), some (iI x38), none] [] h37)) := rfl
set_option maxRecDepth 20000 in
set_option maxHeartbeats 4000000 in
theorem e_M_readPlain_120 (d n : Nat) (l0 : Nat) (l1 : Int) (s0 : Nat) (h : IH) :
 lp d 196 (n + 1) 120 [some (iR (some l0)), some (iI l1), none, none] [iR (some s0)] h =
 (kI (rn d 188 [iI 61] h) fun x2 h1 =>
 xck h1 s0 22 <|
 kV (rn d 186 [iR (some s0), iI x2] h1) fun h3 =>
 xck h3 l0 22 <|
 kV (rn d 197 [iR (some l0), iI l1] h3) fun h4 =>
 some (o0, h4)) := rfl
-- TownSundaysModel.readSum(I)V
theorem r_M_readSum (d : Nat) (l0 : Nat) (l1 : Int) (h : IH) : rn (d + 1) 197 [iR (some l0), iI l1] h = lp d 197 (999999 + 1) 0 [some (iR (some l0)), some (iI l1)] [] h := rn_lp rfl rfl
set_option maxRecDepth 20000 in
set_option maxHeartbeats 4000000 in
theorem e_M_readSum (d n : Nat) (l0 : Nat) (l1 : Int) (h : IH) :
 lp d 197 (n + 1) 0 [some (iR (some l0)), some (iI l1)] [] h =
 (xck h l0 22 <|
 kV (rn d 198 [iR (some l0), iI l1] h) fun h1 =>
 lp d 197 n 5 [some (iR (some l0)), some (iI l1)] [] h1) := rfl
set_option maxRecDepth 20000 in
set_option maxHeartbeats 4000000 in
theorem e_M_readSum_5 (d n : Nat) (l0 : Nat) (l1 : Int) (h : IH) :
 lp d 197 (n + 1) 5 [some (iR (some l0)), some (iI l1)] [] h =
 (kI (rn d 188 [iI 43] h) fun x2 h1 =>
 xck h1 l0 22 <|
 kI (rn d 185 [iR (some l0), iI x2] h1) fun x4 h3 =>
 (if x4 = 0 then
 kI (rn d 188 [iI 45] h3) fun x6 h5 =>
 xck h5 l0 22 <|
 kI (rn d 185 [iR (some l0), iI x6] h5) fun x8 h7 =>
 (if x8 = 0 then
 some (o0, h7)
 else
 xck h7 l0 22 <|
 kV (rn d 198 [iR (some l0), iI l1] h7) fun h9 =>
 lp d 197 n 5 [some (iR (some l0)), some (iI l1)] [] h9)
 else
 xck h3 l0 22 <|
 kV (rn d 198 [iR (some l0), iI l1] h3) fun h10 =>
 lp d 197 n 5 [some (iR (some l0)), some (iI l1)] [] h10)) := rfl
-- TownSundaysModel.readTerm(I)V
theorem r_M_readTerm (d : Nat) (l0 : Nat) (l1 : Int) (h : IH) : rn (d + 1) 198 [iR (some l0), iI l1] h = lp d 198 (999999 + 1) 0 [some (iR (some l0)), some (iI l1)] [] h := rn_lp rfl rfl
set_option maxRecDepth 20000 in
set_option maxHeartbeats 4000000 in
theorem e_M_readTerm (d n : Nat) (l0 : Nat) (l1 : Int) (h : IH) :
 lp d 198 (n + 1) 0 [some (iR (some l0)), some (iI l1)] [] h =
 (xck h l0 22 <|
 kV (rn d 199 [iR (some l0), iI l1] h) fun h1 =>
 lp d 198 n 5 [some (iR (some l0)), some (iI l1)] [] h1) := rfl
set_option maxRecDepth 20000 in
set_option maxHeartbeats 4000000 in
theorem e_M_readTerm_5 (d n : Nat) (l0 : Nat) (l1 : Int) (h : IH) :
 lp d 198 (n + 1) 5 [some (iR (some l0)), some (iI l1)] [] h =
 (kI (rn d 188 [iI 42] h) fun x2 h1 =>
 xck h1 l0 22 <|
 kI (rn d 185 [iR (some l0), iI x2] h1) fun x4 h3 =>
 (if x4 = 0 then
 kI (rn d 188 [iI 47] h3) fun x6 h5 =>
 xck h5 l0 22 <|
 kI (rn d 185 [iR (some l0), iI x6] h5) fun x8 h7 =>
 (if x8 = 0 then
 kI (rn d 188 [iI 37] h7) fun x10 h9 =>
 xck h9 l0 22 <|
 kI (rn d 185 [iR (some l0), iI x10] h9) fun x12 h11 =>
 (if x12 = 0 then
 some (o0, h11)
 else
 xck h11 l0 22 <|
 kV (rn d 199 [iR (some l0), iI l1] h11) fun h13 =>
 lp d 198 n 5 [some (iR (some l0)), some (iI l1)] [] h13)
 else
 xck h7 l0 22 <|
 kV (rn d 199 [iR (some l0), iI l1] h7) fun h14 =>
 lp d 198 n 5 [some (iR (some l0)), some (iI l1)] [] h14)
 else
 xck h3 l0 22 <|
 kV (rn d 199 [iR (some l0), iI l1] h3) fun h15 =>
 lp d 198 n 5 [some (iR (some l0)), some (iI l1)] [] h15)) := rfl
-- TownSundaysModel.readPart(I)V
theorem r_M_readPart (d : Nat) (l0 : Nat) (l1 : Int) (h : IH) : rn (d + 1) 199 [iR (some l0), iI l1] h = lp d 199 (999999 + 1) 0 [some (iR (some l0)), some (iI l1), none] [] h := rn_lp rfl rfl
set_option maxRecDepth 20000 in
set_option maxHeartbeats 4000000 in
theorem e_M_readPart (d n : Nat) (l0 : Nat) (l1 : Int) (h : IH) :
 lp d 199 (n + 1) 0 [some (iR (some l0)), some (iI l1), none] [] h =
 (xck h l0 22 <|
 kI (rn d 183 [iR (some l0)] h) fun x2 h1 =>
 (if x2 = 0 then
 some (o0, h1)
 else
 xgR h1 l0 22 15 fun x3 =>
 xgI h1 l0 22 19 fun x4 =>
 xB x3 fun a6 =>
 xaI h1 a6 x4 fun x5 =>
 kI (rn d 188 [iI 91] h1) fun x8 h7 =>
 (if x5 = x8 then
 (if l1 = 8 then
 xck h7 l0 22 <|
 kV (rn d 184 [iR (some l0)] h7) fun h9 =>
 xck h9 l0 22 <|
 kI (rn d 183 [iR (some l0)] h9) fun x11 h10 =>
 (if x11 = 0 then
 some (o0, h10)
 else
 xgI h10 l0 22 19 fun x12 =>
 xpI h10 l0 22 19 (wr (x12 + 1)) fun h13 =>
 xck h13 l0 22 <|
 kV (rn d 197 [iR (some l0), iI (wr (l1 + 1))] h13) fun h14 =>
 kI (rn d 188 [iI 93] h14) fun x16 h15 =>
 xck h15 l0 22 <|
 kV (rn d 186 [iR (some l0), iI x16] h15) fun h17 =>
 some (o0, h17))
 else
 xck h7 l0 22 <|
 kI (rn d 183 [iR (some l0)] h7) fun x19 h18 =>
 (if x19 = 0 then
 some (o0, h18)
 else
 xgI h18 l0 22 19 fun x20 =>
 xpI h18 l0 22 19 (wr (x20 + 1)) fun h21 =>
 xck h21 l0 22 <|
 kV (rn d 197 [iR (some l0), iI (wr (l1 + 1))] h21) fun h22 =>
 kI (rn d 188 [iI 93] h22) fun x24 h23 =>
 xck h23 l0 22 <|
 kV (rn d 186 [iR (some l0), iI x24] h23) fun h25 =>
 some (o0, h25)))
 else
 (if x5 = 50 then
 xgR h7 l0 22 16 fun x26 =>
 xgI h7 l0 22 19 fun x27 =>
 xB x26 fun a29 =>
 xaI h7 a29 x27 fun x28 =>
 (if x28 ≤ 1000 then
 xck h7 l0 22 <|
 kV (rn d 187 [iR (some l0)] h7) fun h30 =>
 xgI h30 l0 22 10 fun x31 =>
 (if x31 = 0 then
 some (o0, h30)
 else
 (if x5 = 15 then
 xck h30 l0 22 <|
 kV (rn d 189 [iR (some l0), iI 0, iI 6] h30) fun h32 =>
 some (o0, h32)
 else
 (if x5 = 20 then
 xck h30 l0 22 <|
 kV (rn d 189 [iR (some l0), iI 0, iI 6] h30) fun h33 =>
 some (o0, h33)
 else
 some (o0, h30))))
 else
 lp d 199 n 95 [some (iR (some l0)), none, some (iI x5)] [] h7)
 else
 lp d 199 n 95 [some (iR (some l0)), none, some (iI x5)] [] h7)))) := rfl
set_option maxRecDepth 20000 in
set_option maxHeartbeats 4000000 in
theorem e_M_readPart_95 (d n : Nat) (l0 : Nat) (l2 : Int) (h : IH) :
 lp d 199 (n + 1) 95 [some (iR (some l0)), none, some (iI l2)] [] h =
 (xgI h l0 22 8 fun x1 =>
 (if l2 < x1 then
 xck h l0 22 <|
 kV (rn d 184 [iR (some l0)] h) fun h2 =>
 some (o0, h2)
 else
 xgI h l0 22 9 fun x3 =>
 (if l2 ≤ x3 then
 xck h l0 22 <|
 kV (rn d 187 [iR (some l0)] h) fun h4 =>
 xgI h4 l0 22 10 fun x5 =>
 (if x5 = 0 then
 some (o0, h4)
 else
 (if l2 = 15 then
 xck h4 l0 22 <|
 kV (rn d 189 [iR (some l0), iI 0, iI 6] h4) fun h6 =>
 some (o0, h6)
 else
 (if l2 = 20 then
 xck h4 l0 22 <|
 kV (rn d 189 [iR (some l0), iI 0, iI 6] h4) fun h7 =>
 some (o0, h7)
 else
 some (o0, h4))))
 else
 xck h l0 22 <|
 kV (rn d 184 [iR (some l0)] h) fun h8 =>
 some (o0, h8)))) := rfl
-- TownSundaysModel.reads()Z
theorem r_M_reads (d : Nat) (l0 : Nat) (h : IH) : rn (d + 1) 200 [iR (some l0)] h = lp d 200 (999999 + 1) 0 [some (iR (some l0)), none] [] h := rn_lp rfl rfl
set_option maxRecDepth 20000 in
set_option maxHeartbeats 4000000 in
theorem e_M_reads (d n : Nat) (l0 : Nat) (h : IH) :
 lp d 200 (n + 1) 0 [some (iR (some l0)), none] [] h =
 (xgI h l0 22 13 fun x1 =>
 xck h l0 22 <|
 kV (rn d 182 [iR (some l0), iI x1] h) fun h2 =>
 xpI h2 l0 22 13 0 fun h3 =>
 xpI h3 l0 22 19 0 fun h4 =>
 xpI h4 l0 22 20 0 fun h5 =>
 xpI h5 l0 22 21 (-1) fun h6 =>
 xck h6 l0 22 <|
 kV (rn d 193 [iR (some l0)] h6) fun h7 =>
 lp d 200 n 34 [some (iR (some l0)), some (iI 1)] [] h7) := rfl
set_option maxRecDepth 20000 in
set_option maxHeartbeats 4000000 in
theorem e_M_reads_34 (d n : Nat) (l0 : Nat) (l1 : Int) (h : IH) :
 lp d 200 (n + 1) 34 [some (iR (some l0)), some (iI l1)] [] h =
 (kI (rn d 188 [iI 59] h) fun x2 h1 =>
 xck h1 l0 22 <|
 kI (rn d 185 [iR (some l0), iI x2] h1) fun x4 h3 =>
 (if x4 = 0 then
 xck h3 l0 22 <|
 kI (rn d 183 [iR (some l0)] h3) fun x6 h5 =>
 (if x6 = 0 then
 xgI h5 l0 22 21 fun x7 =>
 xpI h5 l0 22 14 x7 fun h8 =>
 xck h8 l0 22 <|
 kI (rn d 183 [iR (some l0)] h8) fun x10 h9 =>
 xZ x10 h9
 else
 xgI h5 l0 22 19 fun x11 =>
 xgI h5 l0 22 18 fun x12 =>
 (if x11 < x12 then
 xck h5 l0 22 <|
 kV (rn d 184 [iR (some l0)] h5) fun h13 =>
 xgI h13 l0 22 21 fun x14 =>
 xpI h13 l0 22 14 x14 fun h15 =>
 xck h15 l0 22 <|
 kI (rn d 183 [iR (some l0)] h15) fun x17 h16 =>
 xZ x17 h16
 else
 xgI h5 l0 22 21 fun x18 =>
 xpI h5 l0 22 14 x18 fun h19 =>
 xck h19 l0 22 <|
 kI (rn d 183 [iR (some l0)] h19) fun x21 h20 =>
 xZ x21 h20))
 else
 (if l1 = 12 then
 xck h3 l0 22 <|
 kV (rn d 184 [iR (some l0)] h3) fun h22 =>
 xck h22 l0 22 <|
 kI (rn d 183 [iR (some l0)] h22) fun x24 h23 =>
 (if x24 = 0 then
 lp d 200 n 34 [some (iR (some l0)), some (iI (wr (l1 + 1)))] [] h23
 else
 xck h23 l0 22 <|
 kV (rn d 193 [iR (some l0)] h23) fun h25 =>
 lp d 200 n 34 [some (iR (some l0)), some (iI (wr (l1 + 1)))] [] h25)
 else
 xck h3 l0 22 <|
 kI (rn d 183 [iR (some l0)] h3) fun x27 h26 =>
 (if x27 = 0 then
 lp d 200 n 34 [some (iR (some l0)), some (iI (wr (l1 + 1)))] [] h26
 else
 xck h26 l0 22 <|
 kV (rn d 193 [iR (some l0)] h26) fun h28 =>
 lp d 200 n 34 [some (iR (some l0)), some (iI (wr (l1 + 1)))] [] h28)))) := rfl
-- TownSundaysModel.readsAs(Z)Z
theorem r_M_readsAs (d : Nat) (l0 : Nat) (l1 : Int) (h : IH) : rn (d + 1) 201 [iR (some l0), iI l1] h = lp d 201 (999999 + 1) 0 [some (iR (some l0)), some (iI l1)] [] h := rn_lp rfl rfl
set_option maxRecDepth 20000 in
set_option maxHeartbeats 4000000 in
theorem e_M_readsAs (d n : Nat) (l0 : Nat) (l1 : Int) (h : IH) :
 lp d 201 (n + 1) 0 [some (iR (some l0)), some (iI l1)] [] h =
 (xpZ h l0 22 10 l1 fun h1 =>
 (if l1 = 0 then
 xpI h1 l0 22 8 8 fun h2 =>
 (if l1 = 0 then
 xpI h2 l0 22 9 16 fun h3 =>
 xck h3 l0 22 <|
 kI (rn d 200 [iR (some l0)] h3) fun x5 h4 =>
 xZ x5 h4
 else
 xpI h2 l0 22 9 20 fun h6 =>
 xck h6 l0 22 <|
 kI (rn d 200 [iR (some l0)] h6) fun x8 h7 =>
 xZ x8 h7)
 else
 xpI h1 l0 22 8 15 fun h9 =>
 (if l1 = 0 then
 xpI h9 l0 22 9 16 fun h10 =>
 xck h10 l0 22 <|
 kI (rn d 200 [iR (some l0)] h10) fun x12 h11 =>
 xZ x12 h11
 else
 xpI h9 l0 22 9 20 fun h13 =>
 xck h13 l0 22 <|
 kI (rn d 200 [iR (some l0)] h13) fun x15 h14 =>
 xZ x15 h14))) := rfl
-- TownSundaysModel.lays(I)V
theorem r_M_lays (d : Nat) (l0 : Nat) (l1 : Int) (h : IH) : rn (d + 1) 202 [iR (some l0), iI l1] h = lp d 202 (999999 + 1) 0 [some (iR (some l0)), some (iI l1), none] [] h := rn_lp rfl rfl
set_option maxRecDepth 20000 in
set_option maxHeartbeats 4000000 in
theorem e_M_lays (d n : Nat) (l0 : Nat) (l1 : Int) (h : IH) :
 lp d 202 (n + 1) 0 [some (iR (some l0)), some (iI l1), none] [] h =
 (xgR h l0 22 2 fun x1 =>
 xgI h l0 22 18 fun x2 =>
 xB x1 fun a4 =>
 xsI h a4 (wr (187 + l1)) x2 fun h3 =>
 lp d 202 n 16 [some (iR (some l0)), some (iI l1), some (iI 0)] [] h3) := rfl
set_option maxRecDepth 20000 in
set_option maxHeartbeats 4000000 in
theorem e_M_lays_16 (d n : Nat) (l0 : Nat) (l1 : Int) (l2 : Int) (h : IH) :
 lp d 202 (n + 1) 16 [some (iR (some l0)), some (iI l1), some (iI l2)] [] h =
 (xgI h l0 22 18 fun x1 =>
 (if l2 < x1 then
 xgR h l0 22 2 fun x2 =>
 xgR h l0 22 15 fun x3 =>
 xB x3 fun a5 =>
 xaI h a5 l2 fun x4 =>
 xB x2 fun a7 =>
 xsI h a7 (wr ((wr (194 + (wr (400 * l1)))) + l2)) x4 fun h6 =>
 xgR h6 l0 22 2 fun x8 =>
 xgR h6 l0 22 16 fun x9 =>
 xB x9 fun a11 =>
 xaI h6 a11 l2 fun x10 =>
 xB x8 fun a13 =>
 xsI h6 a13 (wr ((wr (2994 + (wr (400 * l1)))) + l2)) x10 fun h12 =>
 lp d 202 n 16 [some (iR (some l0)), some (iI l1), some (iI (wr (l2 + 1)))] [] h12
 else
 some (o0, h))) := rfl
-- TownSundaysModel.law()I
theorem r_M_law (d : Nat) (l0 : Nat) (h : IH) : rn (d + 1) 203 [iR (some l0)] h = lp d 203 (999999 + 1) 0 [some (iR (some l0))] [] h := rn_lp rfl rfl
set_option maxRecDepth 20000 in
set_option maxHeartbeats 4000000 in
theorem e_M_law (d n : Nat) (l0 : Nat) (h : IH) :
 lp d 203 (n + 1) 0 [some (iR (some l0))] [] h =
 (xgR h l0 22 2 fun x1 =>
 xB x1 fun a3 =>
 xaI h a3 185 fun x2 =>
 (if x2 = 6 then
 xpI h l0 22 13 0 fun h4 =>
 xck h4 l0 22 <|
 kI (rn d 150 [iR (some l0), iI (-5)] h4) fun x6 h5 =>
 some (oI x6, h5)
 else
 xck h l0 22 <|
 kI (rn d 201 [iR (some l0), iI 0] h) fun x8 h7 =>
 (if x8 = 0 then
 xck h7 l0 22 <|
 kI (rn d 150 [iR (some l0), iI (-6)] h7) fun x10 h9 =>
 some (oI x10, h9)
 else
 xgR h7 l0 22 2 fun x11 =>
 xB x11 fun a13 =>
 xaI h7 a13 185 fun x12 =>
 xck h7 l0 22 <|
 kV (rn d 202 [iR (some l0), iI x12] h7) fun h14 =>
 xgR h14 l0 22 2 fun x15 =>
 xB x15 fun a17 =>
 xaI h14 a17 185 fun x16 =>
 xB x15 fun a19 =>
 xsI h14 a19 185 (wr (x16 + 1)) fun h18 =>
 xgR h18 l0 22 2 fun x20 =>
 xB x20 fun a22 =>
 xaI h18 a22 185 fun x21 =>
 xck h18 l0 22 <|
 kI (rn d 151 [iR (some l0), iI (wr (x21 - 1))] h18) fun x24 h23 =>
 some (oI x24, h23)))) := rfl
-- TownSundaysModel.fault()I
theorem r_M_fault (d : Nat) (l0 : Nat) (h : IH) : rn (d + 1) 204 [iR (some l0)] h = lp d 204 (999999 + 1) 0 [some (iR (some l0))] [] h := rn_lp rfl rfl
set_option maxRecDepth 20000 in
set_option maxHeartbeats 4000000 in
theorem e_M_fault (d n : Nat) (l0 : Nat) (h : IH) :
 lp d 204 (n + 1) 0 [some (iR (some l0))] [] h =
 (xgI h l0 22 14 fun x1 =>
 some (oI x1, h)) := rfl
-- TownSundaysModel.isLaw(I)Z
theorem r_M_isLaw (d : Nat) (l0 : Nat) (l1 : Int) (h : IH) : rn (d + 1) 205 [iR (some l0), iI l1] h = lp d 205 (999999 + 1) 0 [some (iR (some l0)), some (iI l1)] [] h := rn_lp rfl rfl
set_option maxRecDepth 20000 in
set_option maxHeartbeats 4000000 in
theorem e_M_isLaw (d n : Nat) (l0 : Nat) (l1 : Int) (h : IH) :
 lp d 205 (n + 1) 0 [some (iR (some l0)), some (iI l1)] [] h =
 (xgR h l0 22 2 fun x1 =>
 xB x1 fun a3 =>
 xaI h a3 185 fun x2 =>
 kI (rn d 147 [iI l1, iI (-1), iI (wr (x2 - 1))] h) fun x5 h4 =>
 xZ x5 h4) := rfl
-- TownSundaysModel.force(I)I
theorem r_M_force (d : Nat) (l0 : Nat) (l1 : Int) (h : IH) : rn (d + 1) 206 [iR (some l0), iI l1] h = lp d 206 (999999 + 1) 0 [some (iR (some l0)), some (iI l1), none] [] h := rn_lp rfl rfl
set_option maxRecDepth 20000 in
set_option maxHeartbeats 4000000 in
theorem e_M_force (d n : Nat) (l0 : Nat) (l1 : Int) (h : IH) :
 lp d 206 (n + 1) 0 [some (iR (some l0)), some (iI l1), none] [] h =
 (xck h l0 22 <|
 kI (rn d 205 [iR (some l0), iI l1] h) fun x2 h1 =>
 (if x2 = 0 then
 xck h1 l0 22 <|
 kI (rn d 150 [iR (some l0), iI (-2)] h1) fun x4 h3 =>
 some (oI x4, h3)
 else
 xgR h1 l0 22 2 fun x5 =>
 xB x5 fun a7 =>
 xaI h1 a7 186 fun x6 =>
 xgR h1 l0 22 2 fun x8 =>
 xB x8 fun a10 =>
 xsI h1 a10 186 l1 fun h9 =>
 xck h9 l0 22 <|
 kI (rn d 151 [iR (some l0), iI x6] h9) fun x12 h11 =>
 some (oI x12, h11))) := rfl
-- TownSundaysModel.codeAt(I)I
theorem r_M_codeAt (d : Nat) (l0 : Nat) (l1 : Int) (h : IH) : rn (d + 1) 207 [iR (some l0), iI l1] h = lp d 207 (999999 + 1) 0 [some (iR (some l0)), some (iI l1)] [] h := rn_lp rfl rfl
set_option maxRecDepth 20000 in
set_option maxHeartbeats 4000000 in
theorem e_M_codeAt (d n : Nat) (l0 : Nat) (l1 : Int) (h : IH) :
 lp d 207 (n + 1) 0 [some (iR (some l0)), some (iI l1)] [] h =
 (xgI h l0 22 23 fun x1 =>
 (if l1 < x1 then
 xgR h l0 22 2 fun x2 =>
 xB x2 fun a4 =>
 xaI h a4 (wr (194 + l1)) fun x3 =>
 some (oI x3, h)
 else
 some (oI 0, h))) := rfl
-- TownSundaysModel.passes0(I)Z
theorem r_M_passes0 (d : Nat) (l0 : Nat) (l1 : Int) (h : IH) : rn (d + 1) 208 [iR (some l0), iI l1] h = lp d 208 (999999 + 1) 0 [some (iR (some l0)), some (iI l1), none] [] h := rn_lp rfl rfl
set_option maxRecDepth 20000 in
set_option maxHeartbeats 4000000 in
theorem e_M_passes0 (d n : Nat) (l0 : Nat) (l1 : Int) (h : IH) :
 lp d 208 (n + 1) 0 [some (iR (some l0)), some (iI l1), none] [] h =
 (xgI h l0 22 22 fun x1 =>
 xck h l0 22 <|
 kI (rn d 207 [iR (some l0), iI x1] h) fun x3 h2 =>
 (if x3 = l1 then
 (if 1 = 0 then
 xZ 1 h2
 else
 xgI h2 l0 22 22 fun x4 =>
 xpI h2 l0 22 22 (wr (x4 + 1)) fun h5 =>
 xZ 1 h5)
 else
 (if 0 = 0 then
 xZ 0 h2
 else
 xgI h2 l0 22 22 fun x6 =>
 xpI h2 l0 22 22 (wr (x6 + 1)) fun h7 =>
 xZ 0 h7))) := rfl
-- TownSundaysModel.bounded(JZ)J
theorem r_M_bounded (d : Nat) (l0 : Nat) (l1 : Int) (l3 : Int) (h : IH) : rn (d + 1) 209 [iR (some l0), iJ l1, iI l3] h = lp d 209 (999999 + 1) 0 [some (iR (some l0)), some (iJ l1), none, some (iI l3)] [] h := rn_lp rfl rfl
set_option maxRecDepth 20000 in
set_option maxHeartbeats 4000000 in
theorem e_M_bounded (d n : Nat) (l0 : Nat) (l1 : Int) (l3 : Int) (h : IH) :
 lp d 209 (n + 1) 0 [some (iR (some l0)), some (iJ l1), none, some (iI l3)] [] h =
 ((if l3 = 0 then
 xgI h l0 22 24 fun x1 =>
 (if x1 = 0 then
 some (oJ l1, h)
 else
 some (oJ 0, h))
 else
 (if (lcmp l1 1000000000) ≤ 0 then
 (if (lcmp l1 (-1000000000)) < 0 then
 xpZ h l0 22 24 1 fun h2 =>
 xgI h2 l0 22 24 fun x3 =>
 (if x3 = 0 then
 some (oJ l1, h2)
 else
 some (oJ 0, h2))
 else
 xgI h l0 22 24 fun x4 =>
 (if x4 = 0 then
 some (oJ l1, h)
 else
 some (oJ 0, h)))
 else
 xpZ h l0 22 24 1 fun h5 =>
 xgI h5 l0 22 24 fun x6 =>
 (if x6 = 0 then
 some (oJ l1, h5)
 else
 some (oJ 0, h5))))) := rfl
-- TownSundaysModel.sumOf(Z)J
theorem r_M_sumOf (d : Nat) (l0 : Nat) (l1 : Int) (h : IH) : rn (d + 1) 210 [iR (some l0), iI l1] h = lp d 210 (999999 + 1) 0 [some (iR (some l0)), some (iI l1), none, none, none, none, none] [] h := rn_lp rfl rfl
set_option maxRecDepth 20000 in
set_option maxHeartbeats 4000000 in
theorem e_M_sumOf (d n : Nat) (l0 : Nat) (l1 : Int) (h : IH) :
 lp d 210 (n + 1) 0 [some (iR (some l0)), some (iI l1), none, none, none, none, none] [] h =
 (xck h l0 22 <|
 kJ (rn d 211 [iR (some l0), iI l1] h) fun x2 h1 =>
 lp d 210 n 6 [some (iR (some l0)), some (iI l1), some (iJ x2), none, none, none, none] [] h1) := rfl
set_option maxRecDepth 20000 in
set_option maxHeartbeats 4000000 in
theorem e_M_sumOf_6 (d n : Nat) (l0 : Nat) (l1 : Int) (l2 : Int) (h : IH) :
 lp d 210 (n + 1) 6 [some (iR (some l0)), some (iI l1), some (iJ l2), none, none, none, none] [] h =
 (xgI h l0 22 22 fun x1 =>
 xck h l0 22 <|
 kI (rn d 207 [iR (some l0), iI x1] h) fun x3 h2 =>
 kI (rn d 188 [iI 43] h2) fun x5 h4 =>
 (if x3 = x5 then
 xgI h4 l0 22 22 fun x6 =>
 xck h4 l0 22 <|
 kI (rn d 207 [iR (some l0), iI x6] h4) fun x8 h7 =>
 kI (rn d 188 [iI 43] h7) fun x10 h9 =>
 (if x8 = x10 then
 lp d 210 n 59 [some (iR (some l0)), some (iI l1), some (iJ l2), none, none, none, none] [iI 1] h9
 else
 lp d 210 n 59 [some (iR (some l0)), some (iI l1), some (iJ l2), none, none, none, none] [iI 0] h9)
 else
 xgI h4 l0 22 22 fun x11 =>
 xck h4 l0 22 <|
 kI (rn d 207 [iR (some l0), iI x11] h4) fun x13 h12 =>
 kI (rn d 188 [iI 45] h12) fun x15 h14 =>
 (if x13 = x15 then
 xgI h14 l0 22 22 fun x16 =>
 xck h14 l0 22 <|
 kI (rn d 207 [iR (some l0), iI x16] h14) fun x18 h17 =>
 kI (rn d 188 [iI 43] h17) fun x20 h19 =>
 (if x18 = x20 then
 lp d 210 n 59 [some (iR (some l0)), some (iI l1), some (iJ l2), none, none, none, none] [iI 1] h19
 else
 lp d 210 n 59 [some (iR (some l0)), some (iI l1), some (iJ l2), none, none, none, none] [iI 0] h19)
 else
 some (oJ l2, h14)))) := rfl
set_option maxRecDepth 20000 in
set_option maxHeartbeats 4000000 in
theorem e_M_sumOf_59 (d n : Nat) (l0 : Nat) (l1 : Int) (l2 : Int) (s0 : Int) (h : IH) :
 lp d 210 (n + 1) 59 [some (iR (some l0)), some (iI l1), some (iJ l2), none, none, none, none] [iI s0] h =
 (xgI h l0 22 22 fun x1 =>
 xpI h l0 22 22 (wr (x1 + 1)) fun h2 =>
 xck h2 l0 22 <|
 kJ (rn d 211 [iR (some l0), iI l1] h2) fun x4 h3 =>
 (if s0 = 0 then
 xck h3 l0 22 <|
 kJ (rn d 209 [iR (some l0), iJ (wl (l2 - x4)), iI l1] h3) fun x6 h5 =>
 lp d 210 n 6 [some (iR (some l0)), some (iI l1), some (iJ x6), none, none, none, none] [] h5
 else
 xck h3 l0 22 <|
 kJ (rn d 209 [iR (some l0), iJ (wl (l2 + x4)), iI l1] h3) fun x8 h7 =>
 lp d 210 n 6 [some (iR (some l0)), some (iI l1), some (iJ x8), none, none, none, none] [] h7)) := rfl
-- TownSundaysModel.termOf(Z)J
theorem r_M_termOf (d : Nat) (l0 : Nat) (l1 : Int) (h : IH) : rn (d + 1) 211 [iR (some l0), iI l1] h = lp d 211 (999999 + 1) 0 [some (iR (some l0)), some (iI l1), none, none, none, none, none] [] h := rn_lp rfl rfl
set_option maxRecDepth 20000 in
set_option maxHeartbeats 4000000 in
theorem e_M_termOf (d n : Nat) (l0 : Nat) (l1 : Int) (h : IH) :
 lp d 211 (n + 1) 0 [some (iR (some l0)), some (iI l1), none, none, none, none, none] [] h =
 (xck h l0 22 <|
 kJ (rn d 212 [iR (some l0), iI l1] h) fun x2 h1 =>
 lp d 211 n 6 [some (iR (some l0)), some (iI l1), some (iJ x2), none, none, none, none] [] h1) := rfl
set_option maxRecDepth 20000 in
set_option maxHeartbeats 4000000 in
theorem e_M_termOf_6 (d n : Nat) (l0 : Nat) (l1 : Int) (l2 : Int) (h : IH) :
 lp d 211 (n + 1) 6 [some (iR (some l0)), some (iI l1), some (iJ l2), none, none, none, none] [] h =
 (xgI h l0 22 22 fun x1 =>
 xck h l0 22 <|
 kI (rn d 207 [iR (some l0), iI x1] h) fun x3 h2 =>
 kI (rn d 188 [iI 42] h2) fun x5 h4 =>
 (if x3 = x5 then
 lp d 211 n 54 [some (iR (some l0)), some (iI l1), some (iJ l2), none, none, none, none] [] h4
 else
 xgI h4 l0 22 22 fun x6 =>
 xck h4 l0 22 <|
 kI (rn d 207 [iR (some l0), iI x6] h4) fun x8 h7 =>
 kI (rn d 188 [iI 47] h7) fun x10 h9 =>
 (if x8 = x10 then
 lp d 211 n 54 [some (iR (some l0)), some (iI l1), some (iJ l2), none, none, none, none] [] h9
 else
 xgI h9 l0 22 22 fun x11 =>
 xck h9 l0 22 <|
 kI (rn d 207 [iR (some l0), iI x11] h9) fun x13 h12 =>
 kI (rn d 188 [iI 37] h12) fun x15 h14 =>
 (if x13 = x15 then
 lp d 211 n 54 [some (iR (some l0)), some (iI l1), some (iJ l2), none, none, none, none] [] h14
 else
 some (oJ l2, h14))))) := rfl
set_option maxRecDepth 20000 in
set_option maxHeartbeats 4000000 in
theorem e_M_termOf_54 (d n : Nat) (l0 : Nat) (l1 : Int) (l2 : Int) (h : IH) :
 lp d 211 (n + 1) 54 [some (iR (some l0)), some (iI l1), some (iJ l2), none, none, none, none] [] h =
 (xgI h l0 22 22 fun x1 =>
 xck h l0 22 <|
 kI (rn d 207 [iR (some l0), iI x1] h) fun x3 h2 =>
 xgI h2 l0 22 22 fun x4 =>
 xpI h2 l0 22 22 (wr (x4 + 1)) fun h5 =>
 xck h5 l0 22 <|
 kJ (rn d 212 [iR (some l0), iI l1] h5) fun x7 h6 =>
 kI (rn d 188 [iI 42] h6) fun x9 h8 =>
 (if x3 = x9 then
 lp d 211 n 121 [some (iR (some l0)), some (iI l1), some (iJ l2), none, some (iI x3), some (iJ x7), none] [] h8
 else
 (if (lcmp x7 0) = 0 then
 xgI h8 l0 22 24 fun x10 =>
 (if x10 = 0 then
 (if l1 = 0 then
 xpZ h8 l0 22 24 0 fun h11 =>
 lp d 211 n 121 [some (iR (some l0)), some (iI l1), some (iJ l2), none, some (iI x3), some (iJ 1), none] [] h11
 else
 xpZ h8 l0 22 24 1 fun h12 =>
 lp d 211 n 121 [some (iR (some l0)), some (iI l1), some (iJ l2), none, some (iI x3), some (iJ 1), none] [] h12)
 else
 xpZ h8 l0 22 24 1 fun h13 =>
 lp d 211 n 121 [some (iR (some l0)), some (iI l1), some (iJ l2), none, some (iI x3), some (iJ 1), none] [] h13)
 else
 lp d 211 n 121 [some (iR (some l0)), some (iI l1), some (iJ l2), none, some (iI x3), some (iJ x7), none] [] h8))) := rfl
set_option maxRecDepth 20000 in
set_option maxHeartbeats 4000000 in
theorem e_M_termOf_121 (d n : Nat) (l0 : Nat) (l1 : Int) (l2 : Int) (l4 : Int) (l5 : Int) (h : IH) :
 lp d 211 (n + 1) 121 [some (iR (some l0)), some (iI l1), some (iJ l2), none, some (iI l4), some (iJ l5), none] [] h =
 (kI (rn d 188 [iI 42] h) fun x2 h1 =>
 (if l4 = x2 then
 xck h1 l0 22 <|
 kJ (rn d 209 [iR (some l0), iJ (wl (l2 * l5)), iI l1] h1) fun x4 h3 =>
 lp d 211 n 6 [some (iR (some l0)), some (iI l1), some (iJ x4), none, none, none, none] [] h3
 else
 kI (rn d 188 [iI 47] h1) fun x6 h5 =>
 (if l4 = x6 then
 xdJ l2 l5 fun x7 =>
 xck h5 l0 22 <|
 kJ (rn d 209 [iR (some l0), iJ x7, iI l1] h5) fun x9 h8 =>
 lp d 211 n 6 [some (iR (some l0)), some (iI l1), some (iJ x9), none, none, none, none] [] h8
 else
 xmJ l2 l5 fun x10 =>
 xck h5 l0 22 <|
 kJ (rn d 209 [iR (some l0), iJ x10, iI l1] h5) fun x12 h11 =>
 lp d 211 n 6 [some (iR (some l0)), some (iI l1), some (iJ x12), none, none, none, none] [] h11))) := rfl
-- TownSundaysModel.partOf(Z)J
theorem r_M_partOf (d : Nat) (l0 : Nat) (l1 : Int) (h : IH) : rn (d + 1) 212 [iR (some l0), iI l1] h = lp d 212 (999999 + 1) 0 [some (iR (some l0)), some (iI l1), none, none] [] h := rn_lp rfl rfl
set_option maxRecDepth 20000 in
set_option maxHeartbeats 4000000 in
theorem e_M_partOf (d n : Nat) (l0 : Nat) (l1 : Int) (h : IH) :
 lp d 212 (n + 1) 0 [some (iR (some l0)), some (iI l1), none, none] [] h =
 (kI (rn d 188 [iI 91] h) fun x2 h1 =>
 xck h1 l0 22 <|
 kI (rn d 208 [iR (some l0), iI x2] h1) fun x4 h3 =>
 (if x4 = 0 then
 xgI h3 l0 22 22 fun x5 =>
 xck h3 l0 22 <|
 kI (rn d 207 [iR (some l0), iI x5] h3) fun x7 h6 =>
 xgI h6 l0 22 22 fun x8 =>
 xpI h6 l0 22 22 (wr (x8 + 1)) fun h9 =>
 xgI h9 l0 22 25 fun x10 =>
 (if x10 = 0 then
 lp d 212 n 94 [some (iR (some l0)), some (iI l1), some (iI x7), some (iI 0)] [] h9
 else
 (if x7 = 15 then
 xgR h9 l0 22 2 fun x11 =>
 xgI h9 l0 22 22 fun x12 =>
 xB x11 fun a14 =>
 xaI h9 a14 (wr (2994 + x12)) fun x13 =>
 xgI h9 l0 22 22 fun x15 =>
 xpI h9 l0 22 22 (wr (x15 + 1)) fun h16 =>
 lp d 212 n 94 [some (iR (some l0)), some (iI l1), some (iI x7), some (iI x13)] [] h16
 else
 (if x7 = 20 then
 xgR h9 l0 22 2 fun x17 =>
 xgI h9 l0 22 22 fun x18 =>
 xB x17 fun a20 =>
 xaI h9 a20 (wr (2994 + x18)) fun x19 =>
 xgI h9 l0 22 22 fun x21 =>
 xpI h9 l0 22 22 (wr (x21 + 1)) fun h22 =>
 lp d 212 n 94 [some (iR (some l0)), some (iI l1), some (iI x7), some (iI x19)] [] h22
 else
 lp d 212 n 94 [some (iR (some l0)), some (iI l1), some (iI x7), some (iI 0)] [] h9)))
 else
 xck h3 l0 22 <|
 kJ (rn d 210 [iR (some l0), iI l1] h3) fun x24 h23 =>
 xgI h23 l0 22 22 fun x25 =>
 xpI h23 l0 22 22 (wr (x25 + 1)) fun h26 =>
 some (oJ x24, h26))) := rfl
set_option maxRecDepth 20000 in
set_option maxHeartbeats 4000000 in
theorem e_M_partOf_94 (d n : Nat) (l0 : Nat) (l1 : Int) (l2 : Int) (l3 : Int) (h : IH) :
 lp d 212 (n + 1) 94 [some (iR (some l0)), some (iI l1), some (iI l2), some (iI l3)] [] h =
 ((if l1 = 0 then
 some (oJ 0, h)
 else
 xgI h l0 22 24 fun x1 =>
 (if x1 = 0 then
 (if l2 = 50 then
 xgR h l0 22 2 fun x2 =>
 xgI h l0 22 22 fun x3 =>
 xB x2 fun a5 =>
 xaI h a5 (wr ((wr (2994 + x3)) - 1)) fun x4 =>
 some (oJ x4, h)
 else
 xgI h l0 22 25 fun x6 =>
 (if x6 = 0 then
 xgR h l0 22 26 fun x7 =>
 xB x7 fun a9 =>
 xaI h a9 (wr (l2 - 8)) fun x8 =>
 some (oJ x8, h)
 else
 xck h l0 22 <|
 kI (rn d 213 [iR (some l0), iI l2, iI l3] h) fun x11 h10 =>
 some (oJ x11, h10)))
 else
 some (oJ 0, h)))) := rfl
-- TownSundaysModel.orderValue(II)I
theorem r_M_orderValue (d : Nat) (l0 : Nat) (l1 : Int) (l2 : Int) (h : IH) : rn (d + 1) 213 [iR (some l0), iI l1, iI l2] h = lp d 213 (999999 + 1) 0 [some (iR (some l0)), some (iI l1), some (iI l2)] [] h := rn_lp rfl rfl
set_option maxRecDepth 20000 in
set_option maxHeartbeats 4000000 in
theorem e_M_orderValue (d n : Nat) (l0 : Nat) (l1 : Int) (l2 : Int) (h : IH) :
 lp d 213 (n + 1) 0 [some (iR (some l0)), some (iI l1), some (iI l2)] [] h =
 ((if l1 = 15 then
 xck h l0 22 <|
 kI (rn d 161 [iR (some l0), iI l2] h) fun x14 h13 =>
 (if x14 = 0 then
 some (oI (-1), h13)
 else
 xgR h13 l0 22 2 fun x15 =>
 xB x15 fun a17 =>
 xaI h13 a17 (wr (7 + l2)) fun x16 =>
 some (oI x16, h13))
 else
 (if l1 = 16 then
 xgR h l0 22 2 fun x10 =>
 xB x10 fun a12 =>
 xaI h a12 112 fun x11 =>
 some (oI x11, h)
 else
 (if l1 = 17 then
 xgI h l0 22 27 fun x9 =>
 some (oI x9, h)
 else
 (if l1 = 18 then
 xgI h l0 22 28 fun x8 =>
 some (oI x8, h)
 else
 (if l1 = 19 then
 xck h l0 22 <|
 kI (rn d 226 [iR (some l0)] h) fun x7 h6 =>
 some (oI x7, h6)
 else
 xck h l0 22 <|
 kI (rn d 161 [iR (some l0), iI l2] h) fun x2 h1 =>
 (if x2 = 0 then
 some (oI (-1), h1)
 else
 xgR h1 l0 22 2 fun x3 =>
 xB x3 fun a5 =>
 xaI h1 a5 (wr (0 + l2)) fun x4 =>
 some (oI x4, h1)))))))) := rfl
-- TownSundaysModel.testOf(Z)Z
theorem r_M_testOf (d : Nat) (l0 : Nat) (l1 : Int) (h : IH) : rn (d + 1) 214 [iR (some l0), iI l1] h = lp d 214 (999999 + 1) 0 [some (iR (some l0)), some (iI l1), none, none] [] h := rn_lp rfl rfl
set_option maxRecDepth 20000 in
set_option maxHeartbeats 4000000 in
theorem e_M_testOf (d n : Nat) (l0 : Nat) (l1 : Int) (h : IH) :
 lp d 214 (n + 1) 0 [some (iR (some l0)), some (iI l1), none, none] [] h =
 (xck h l0 22 <|
 kI (rn d 215 [iR (some l0), iI l1] h) fun x2 h1 =>
 lp d 214 n 6 [some (iR (some l0)), some (iI l1), some (iI x2), none] [] h1) := rfl
set_option maxRecDepth 20000 in
set_option maxHeartbeats 4000000 in
theorem e_M_testOf_6 (d n : Nat) (l0 : Nat) (l1 : Int) (l2 : Int) (h : IH) :
 lp d 214 (n + 1) 6 [some (iR (some l0)), some (iI l1), some (iI l2), none] [] h =
 (xck h l0 22 <|
 kI (rn d 208 [iR (some l0), iI 5] h) fun x2 h1 =>
 (if x2 = 0 then
 xZ l2 h1
 else
 (if l1 = 0 then
 xck h1 l0 22 <|
 kI (rn d 215 [iR (some l0), iI 0] h1) fun x4 h3 =>
 (if l2 = 0 then
 (if x4 = 0 then
 lp d 214 n 6 [some (iR (some l0)), some (iI l1), some (iI 0), none] [] h3
 else
 lp d 214 n 6 [some (iR (some l0)), some (iI l1), some (iI 1), none] [] h3)
 else
 lp d 214 n 6 [some (iR (some l0)), some (iI l1), some (iI 1), none] [] h3)
 else
 (if l2 = 0 then
 xck h1 l0 22 <|
 kI (rn d 215 [iR (some l0), iI 1] h1) fun x6 h5 =>
 (if l2 = 0 then
 (if x6 = 0 then
 lp d 214 n 6 [some (iR (some l0)), some (iI l1), some (iI 0), none] [] h5
 else
 lp d 214 n 6 [some (iR (some l0)), some (iI l1), some (iI 1), none] [] h5)
 else
 lp d 214 n 6 [some (iR (some l0)), some (iI l1), some (iI 1), none] [] h5)
 else
 xck h1 l0 22 <|
 kI (rn d 215 [iR (some l0), iI 0] h1) fun x8 h7 =>
 (if l2 = 0 then
 (if x8 = 0 then
 lp d 214 n 6 [some (iR (some l0)), some (iI l1), some (iI 0), none] [] h7
 else
 lp d 214 n 6 [some (iR (some l0)), some (iI l1), some (iI 1), none] [] h7)
 else
 lp d 214 n 6 [some (iR (some l0)), some (iI l1), some (iI 1), none] [] h7))))) := rfl
-- TownSundaysModel.bothOf(Z)Z
theorem r_M_bothOf (d : Nat) (l0 : Nat) (l1 : Int) (h : IH) : rn (d + 1) 215 [iR (some l0), iI l1] h = lp d 215 (999999 + 1) 0 [some (iR (some l0)), some (iI l1), none, none] [] h := rn_lp rfl rfl
set_option maxRecDepth 20000 in
set_option maxHeartbeats 4000000 in
theorem e_M_bothOf (d n : Nat) (l0 : Nat) (l1 : Int) (h : IH) :
 lp d 215 (n + 1) 0 [some (iR (some l0)), some (iI l1), none, none] [] h =
 (xck h l0 22 <|
 kI (rn d 216 [iR (some l0), iI l1] h) fun x2 h1 =>
 lp d 215 n 6 [some (iR (some l0)), some (iI l1), some (iI x2), none] [] h1) := rfl
set_option maxRecDepth 20000 in
set_option maxHeartbeats 4000000 in
theorem e_M_bothOf_6 (d n : Nat) (l0 : Nat) (l1 : Int) (l2 : Int) (h : IH) :
 lp d 215 (n + 1) 6 [some (iR (some l0)), some (iI l1), some (iI l2), none] [] h =
 (xck h l0 22 <|
 kI (rn d 208 [iR (some l0), iI 6] h) fun x2 h1 =>
 (if x2 = 0 then
 xZ l2 h1
 else
 (if l1 = 0 then
 xck h1 l0 22 <|
 kI (rn d 216 [iR (some l0), iI 0] h1) fun x4 h3 =>
 (if l2 = 0 then
 lp d 215 n 6 [some (iR (some l0)), some (iI l1), some (iI 0), none] [] h3
 else
 (if x4 = 0 then
 lp d 215 n 6 [some (iR (some l0)), some (iI l1), some (iI 0), none] [] h3
 else
 lp d 215 n 6 [some (iR (some l0)), some (iI l1), some (iI 1), none] [] h3))
 else
 (if l2 = 0 then
 xck h1 l0 22 <|
 kI (rn d 216 [iR (some l0), iI 0] h1) fun x6 h5 =>
 (if l2 = 0 then
 lp d 215 n 6 [some (iR (some l0)), some (iI l1), some (iI 0), none] [] h5
 else
 (if x6 = 0 then
 lp d 215 n 6 [some (iR (some l0)), some (iI l1), some (iI 0), none] [] h5
 else
 lp d 215 n 6 [some (iR (some l0)), some (iI l1), some (iI 1), none] [] h5))
 else
 xck h1 l0 22 <|
 kI (rn d 216 [iR (some l0), iI 1] h1) fun x8 h7 =>
 (if l2 = 0 then
 lp d 215 n 6 [some (iR (some l0)), some (iI l1), some (iI 0), none] [] h7
 else
 (if x8 = 0 then
 lp d 215 n 6 [some (iR (some l0)), some (iI l1), some (iI 0), none] [] h7
 else
 lp d 215 n 6 [some (iR (some l0)), some (iI l1), some (iI 1), none] [] h7)))))) := rfl
-- TownSundaysModel.plainOf(Z)Z
theorem r_M_plainOf (d : Nat) (l0 : Nat) (l1 : Int) (h : IH) : rn (d + 1) 216 [iR (some l0), iI l1] h = lp d 216 (999999 + 1) 0 [some (iR (some l0)), some (iI l1), none] [] h := rn_lp rfl rfl
set_option maxRecDepth 20000 in
set_option maxHeartbeats 4000000 in
theorem e_M_plainOf (d n : Nat) (l0 : Nat) (l1 : Int) (h : IH) :
 lp d 216 (n + 1) 0 [some (iR (some l0)), some (iI l1), none] [] h =
 (lp d 216 n 2 [some (iR (some l0)), some (iI l1), some (iI 0)] [] h) := rfl
set_option maxRecDepth 20000 in
set_option maxHeartbeats 4000000 in
theorem e_M_plainOf_2 (d n : Nat) (l0 : Nat) (l1 : Int) (l2 : Int) (h : IH) :
 lp d 216 (n + 1) 2 [some (iR (some l0)), some (iI l1), some (iI l2)] [] h =
 (xck h l0 22 <|
 kI (rn d 208 [iR (some l0), iI 7] h) fun x2 h1 =>
 (if x2 = 0 then
 xck h1 l0 22 <|
 kI (rn d 217 [iR (some l0), iI l1] h1) fun x4 h3 =>
 (if x4 = l2 then
 xZ 0 h3
 else
 xZ 1 h3)
 else
 (if l2 = 0 then
 lp d 216 n 2 [some (iR (some l0)), some (iI l1), some (iI 1)] [] h1
 else
 lp d 216 n 2 [some (iR (some l0)), some (iI l1), some (iI 0)] [] h1))) := rfl
-- TownSundaysModel.positiveOf(Z)Z
theorem r_M_positiveOf (d : Nat) (l0 : Nat) (l1 : Int) (h : IH) : rn (d + 1) 217 [iR (some l0), iI l1] h = lp d 217 (999999 + 1) 0 [some (iR (some l0)), some (iI l1), none, none, none, none, none] [] h := rn_lp rfl rfl
set_option maxRecDepth 20000 in
set_option maxHeartbeats 4000000 in
theorem e_M_positiveOf (d n : Nat) (l0 : Nat) (l1 : Int) (h : IH) :
 lp d 217 (n + 1) 0 [some (iR (some l0)), some (iI l1), none, none, none, none, none] [] h =
 (kI (rn d 188 [iI 40] h) fun x2 h1 =>
 xck h1 l0 22 <|
 kI (rn d 208 [iR (some l0), iI x2] h1) fun x4 h3 =>
 (if x4 = 0 then
 xck h3 l0 22 <|
 kJ (rn d 210 [iR (some l0), iI l1] h3) fun x6 h5 =>
 xgI h5 l0 22 22 fun x7 =>
 xck h5 l0 22 <|
 kI (rn d 207 [iR (some l0), iI x7] h5) fun x9 h8 =>
 xgI h8 l0 22 22 fun x10 =>
 xpI h8 l0 22 22 (wr (x10 + 1)) fun h11 =>
 xck h11 l0 22 <|
 kJ (rn d 210 [iR (some l0), iI l1] h11) fun x13 h12 =>
 (if l1 = 0 then
 xZ 0 h12
 else
 xgI h12 l0 22 24 fun x14 =>
 (if x14 = 0 then
 kI (rn d 188 [iI 60] h12) fun x16 h15 =>
 (if x9 = x16 then
 (if (lcmp x6 x13) < 0 then
 lp d 217 n 121 [none, none, none, none, none, none, none] [] h15
 else
 xZ 0 h15)
 else
 kI (rn d 188 [iI 62] h15) fun x18 h17 =>
 (if x9 = x18 then
 (if (lcmp x6 x13) ≤ 0 then
 xZ 0 h17
 else
 lp d 217 n 121 [none, none, none, none, none, none, none] [] h17)
 else
 (if (lcmp x6 x13) = 0 then
 lp d 217 n 121 [none, none, none, none, none, none, none] [] h17
 else
 xZ 0 h17)))
 else
 xZ 0 h12))
 else
 xck h3 l0 22 <|
 kI (rn d 214 [iR (some l0), iI l1] h3) fun x20 h19 =>
 xgI h19 l0 22 22 fun x21 =>
 xpI h19 l0 22 22 (wr (x21 + 1)) fun h22 =>
 xZ x20 h22)) := rfl
set_option maxRecDepth 20000 in
set_option maxHeartbeats 4000000 in
theorem e_M_positiveOf_121 (d n : Nat)  (h : IH) :
 lp d 217 (n + 1) 121 [none, none, none, none, none, none, none] [] h =
 (xZ 1 h) := rfl
-- TownSundaysModel.setsAsked(III)V
theorem r_M_setsAsked (d : Nat) (l0 : Nat) (l1 : Int) (l2 : Int) (l3 : Int) (h : IH) : rn (d + 1) 218 [iR (some l0), iI l1, iI l2, iI l3] h = lp d 218 (999999 + 1) 0 [some (iR (some l0)), some (iI l1), some (iI l2), some (iI l3)] [] h := rn_lp rfl rfl
set_option maxRecDepth 20000 in
set_option maxHeartbeats 4000000 in
theorem e_M_setsAsked (d n : Nat) (l0 : Nat) (l1 : Int) (l2 : Int) (l3 : Int) (h : IH) :
 lp d 218 (n + 1) 0 [some (iR (some l0)), some (iI l1), some (iI l2), some (iI l3)] [] h =
 (xgR h l0 22 26 fun x1 =>
 xB x1 fun a3 =>
 xsI h a3 0 l1 fun h2 =>
 xgR h2 l0 22 26 fun x4 =>
 xB x4 fun a6 =>
 xsI h2 a6 1 l2 fun h5 =>
 xgR h5 l0 22 26 fun x7 =>
 xgR h5 l0 22 2 fun x8 =>
 xB x8 fun a10 =>
 xaI h5 a10 (wr (113 + l2)) fun x9 =>
 xB x7 fun a12 =>
 xsI h5 a12 2 x9 fun h11 =>
 xgR h11 l0 22 26 fun x13 =>
 (if l2 = l1 then
 lp d 218 n 44 [some (iR (some l0)), some (iI l1), some (iI l2), some (iI l3)] [iI 1, iI 3, iR x13] h11
 else
 lp d 218 n 44 [some (iR (some l0)), some (iI l1), some (iI l2), some (iI l3)] [iI 0, iI 3, iR x13] h11)) := rfl
set_option maxRecDepth 20000 in
set_option maxHeartbeats 4000000 in
theorem e_M_setsAsked_44 (d n : Nat) (l0 : Nat) (l1 : Int) (l2 : Int) (l3 : Int) (s0 : Option Nat) (s1 : Int) (s2 : Int) (h : IH) :
 lp d 218 (n + 1) 44 [some (iR (some l0)), some (iI l1), some (iI l2), some (iI l3)] [iI s2, iI s1, iR s0] h =
 (xB s0 fun a2 =>
 xsI h a2 s1 s2 fun h1 =>
 xgR h1 l0 22 26 fun x3 =>
 xgR h1 l0 22 2 fun x4 =>
 kI (rn d 154 [iI l1, iI l2] h1) fun x6 h5 =>
 xB x4 fun a8 =>
 xaI h5 a8 (wr (14 + x6)) fun x7 =>
 xB x3 fun a10 =>
 xsI h5 a10 4 x7 fun h9 =>
 xgR h9 l0 22 26 fun x11 =>
 xB x11 fun a13 =>
 xsI h9 a13 5 l3 fun h12 =>
 xgR h12 l0 22 26 fun x14 =>
 xgR h12 l0 22 2 fun x15 =>
 xB x15 fun a17 =>
 xaI h12 a17 182 fun x16 =>
 xB x14 fun a19 =>
 xsI h12 a19 6 x16 fun h18 =>
 xgR h18 l0 22 26 fun x20 =>
 xgR h18 l0 22 2 fun x21 =>
 xB x21 fun a23 =>
 xaI h18 a23 (wr (7 + l2)) fun x22 =>
 xB x20 fun a25 =>
 xsI h18 a25 7 x22 fun h24 =>
 xgR h24 l0 22 26 fun x26 =>
 xgR h24 l0 22 2 fun x27 =>
 xB x27 fun a29 =>
 xaI h24 a29 112 fun x28 =>
 xB x26 fun a31 =>
 xsI h24 a31 8 x28 fun h30 =>
 some (o0, h30)) := rfl
-- TownSundaysModel.tells(III)I
theorem r_M_tells (d : Nat) (l0 : Nat) (l1 : Int) (l2 : Int) (l3 : Int) (h : IH) : rn (d + 1) 219 [iR (some l0), iI l1, iI l2, iI l3] h = lp d 219 (999999 + 1) 0 [some (iR (some l0)), some (iI l1), some (iI l2), some (iI l3), none, none, none, none, none, none, none] [] h := rn_lp rfl rfl
set_option maxRecDepth 20000 in
set_option maxHeartbeats 4000000 in
theorem e_M_tells (d n : Nat) (l0 : Nat) (l1 : Int) (l2 : Int) (l3 : Int) (h : IH) :
 lp d 219 (n + 1) 0 [some (iR (some l0)), some (iI l1), some (iI l2), some (iI l3), none, none, none, none, none, none, none] [] h =
 (xgR h l0 22 2 fun x1 =>
 xB x1 fun a3 =>
 xaI h a3 186 fun x2 =>
 (if x2 = (-1) then
 some (oI l3, h)
 else
 xpZ h l0 22 25 0 fun h4 =>
 xgR h4 l0 22 2 fun x5 =>
 xB x5 fun a7 =>
 xaI h4 a7 186 fun x6 =>
 xpI h4 l0 22 22 (wr (400 * x6)) fun h8 =>
 lp d 219 n 41 [some (iR (some l0)), some (iI l1), some (iI l2), none, some (iJ l3), none, none, none, none, none, none] [iR (some l0), iR (some l0)] h8)) := rfl
set_option maxRecDepth 20000 in
set_option maxHeartbeats 4000000 in
theorem e_M_tells_41 (d n : Nat) (l0 : Nat) (l1 : Int) (l2 : Int) (l4 : Int) (s0 : Nat) (s1 : Nat) (h : IH) :
 lp d 219 (n + 1) 41 [some (iR (some l0)), some (iI l1), some (iI l2), none, some (iJ l4), none, none, none, none, none, none] [iR (some s1), iR (some s0)] h =
 (xgI h s1 22 22 fun x1 =>
 xgR h l0 22 2 fun x2 =>
 xgR h l0 22 2 fun x3 =>
 xB x3 fun a5 =>
 xaI h a5 186 fun x4 =>
 xB x2 fun a7 =>
 xaI h a7 (wr (187 + x4)) fun x6 =>
 xpI h s0 22 23 (wr (x1 + x6)) fun h8 =>
 lp d 219 n 65 [some (iR (some l0)), some (iI l1), some (iI l2), none, some (iJ l4), none, none, none, none, none, none] [] h8) := rfl
set_option maxRecDepth 20000 in
set_option maxHeartbeats 4000000 in
theorem e_M_tells_65 (d n : Nat) (l0 : Nat) (l1 : Int) (l2 : Int) (l4 : Int) (h : IH) :
 lp d 219 (n + 1) 65 [some (iR (some l0)), some (iI l1), some (iI l2), none, some (iJ l4), none, none, none, none, none, none] [] h =
 (xgI h l0 22 22 fun x1 =>
 xgI h l0 22 23 fun x2 =>
 (if x1 < x2 then
 xgI h l0 22 22 fun x3 =>
 xck h l0 22 <|
 kI (rn d 207 [iR (some l0), iI x3] h) fun x5 h4 =>
 xpZ h4 l0 22 24 0 fun h6 =>
 xgI h6 l0 22 22 fun x7 =>
 xpI h6 l0 22 22 (wr (x7 + 1)) fun h8 =>
 (if x5 = 3 then
 xgI h8 l0 22 24 fun x9 =>
 xpZ h8 l0 22 24 0 fun h10 =>
 xck h10 l0 22 <|
 kI (rn d 208 [iR (some l0), iI 4] h10) fun x12 h11 =>
 (if x12 = 0 then
 lp d 219 n 150 [some (iR (some l0)), some (iI l1), some (iI l2), none, some (iJ l4), none, some (iI x5), some (iJ 1), none, some (iI x9), none] [iI 1] h11
 else
 xck h11 l0 22 <|
 kI (rn d 214 [iR (some l0), iI 1] h11) fun x14 h13 =>
 (if x14 = 0 then
 lp d 219 n 150 [some (iR (some l0)), some (iI l1), some (iI l2), none, some (iJ l4), none, some (iI x5), some (iJ 1), none, some (iI x9), none] [iI 0] h13
 else
 lp d 219 n 150 [some (iR (some l0)), some (iI l1), some (iI l2), none, some (iJ l4), none, some (iI x5), some (iJ 1), none, some (iI x9), none] [iI 1] h13))
 else
 lp d 219 n 111 [some (iR (some l0)), some (iI l1), some (iI l2), none, some (iJ l4), none, some (iI x5), none, none, none, none] [] h8)
 else
 some (oI (wr l4), h))) := rfl
set_option maxRecDepth 20000 in
set_option maxHeartbeats 4000000 in
theorem e_M_tells_111 (d n : Nat) (l0 : Nat) (l1 : Int) (l2 : Int) (l4 : Int) (l6 : Int) (h : IH) :
 lp d 219 (n + 1) 111 [some (iR (some l0)), some (iI l1), some (iI l2), none, some (iJ l4), none, some (iI l6), none, none, none, none] [] h =
 (xck h l0 22 <|
 kJ (rn d 210 [iR (some l0), iI 1] h) fun x2 h1 =>
 xgI h1 l0 22 24 fun x3 =>
 xpZ h1 l0 22 24 0 fun h4 =>
 xck h4 l0 22 <|
 kI (rn d 208 [iR (some l0), iI 4] h4) fun x6 h5 =>
 (if x6 = 0 then
 lp d 219 n 150 [some (iR (some l0)), some (iI l1), some (iI l2), none, some (iJ l4), none, some (iI l6), some (iJ x2), none, some (iI x3), none] [iI 1] h5
 else
 xck h5 l0 22 <|
 kI (rn d 214 [iR (some l0), iI 1] h5) fun x8 h7 =>
 (if x8 = 0 then
 lp d 219 n 150 [some (iR (some l0)), some (iI l1), some (iI l2), none, some (iJ l4), none, some (iI l6), some (iJ x2), none, some (iI x3), none] [iI 0] h7
 else
 lp d 219 n 150 [some (iR (some l0)), some (iI l1), some (iI l2), none, some (iJ l4), none, some (iI l6), some (iJ x2), none, some (iI x3), none] [iI 1] h7))) := rfl
set_option maxRecDepth 20000 in
set_option maxHeartbeats 4000000 in
theorem e_M_tells_150 (d n : Nat) (l0 : Nat) (l1 : Int) (l2 : Int) (l4 : Int) (l6 : Int) (l7 : Int) (l9 : Int) (s0 : Int) (h : IH) :
 lp d 219 (n + 1) 150 [some (iR (some l0)), some (iI l1), some (iI l2), none, some (iJ l4), none, some (iI l6), some (iJ l7), none, some (iI l9), none] [iI s0] h =
 ((if l6 = l1 then
 (if s0 = 0 then
 lp d 219 n 203 [some (iR (some l0)), some (iI l1), some (iI l2), none, some (iJ l4), none, none, none, none, none, none] [] h
 else
 xgI h l0 22 24 fun x1 =>
 (if x1 = 0 then
 (if l9 = 0 then
 (if (lcmp l7 0) < 0 then
 lp d 219 n 203 [some (iR (some l0)), some (iI l1), some (iI l2), none, some (iJ 0), none, none, none, none, none, none] [] h
 else
 (if (lcmp l7 l2) ≤ 0 then
 lp d 219 n 199 [some (iR (some l0)), some (iI l1), some (iI l2), none, none, none, none, some (iJ l7), none, none, none] [] h
 else
 lp d 219 n 203 [some (iR (some l0)), some (iI l1), some (iI l2), none, some (iJ l2), none, none, none, none, none, none] [] h))
 else
 lp d 219 n 203 [some (iR (some l0)), some (iI l1), some (iI l2), none, some (iJ l4), none, none, none, none, none, none] [] h)
 else
 lp d 219 n 203 [some (iR (some l0)), some (iI l1), some (iI l2), none, some (iJ l4), none, none, none, none, none, none] [] h))
 else
 lp d 219 n 203 [some (iR (some l0)), some (iI l1), some (iI l2), none, some (iJ l4), none, none, none, none, none, none] [] h)) := rfl
set_option maxRecDepth 20000 in
set_option maxHeartbeats 4000000 in
theorem e_M_tells_199 (d n : Nat) (l0 : Nat) (l1 : Int) (l2 : Int) (l7 : Int) (h : IH) :
 lp d 219 (n + 1) 199 [some (iR (some l0)), some (iI l1), some (iI l2), none, none, none, none, some (iJ l7), none, none, none] [] h =
 (lp d 219 n 203 [some (iR (some l0)), some (iI l1), some (iI l2), none, some (iJ l7), none, none, none, none, none, none] [] h) := rfl
set_option maxRecDepth 20000 in
set_option maxHeartbeats 4000000 in
theorem e_M_tells_203 (d n : Nat) (l0 : Nat) (l1 : Int) (l2 : Int) (l4 : Int) (h : IH) :
 lp d 219 (n + 1) 203 [some (iR (some l0)), some (iI l1), some (iI l2), none, some (iJ l4), none, none, none, none, none, none] [] h =
 (xgI h l0 22 22 fun x1 =>
 xpI h l0 22 22 (wr (x1 + 1)) fun h2 =>
 lp d 219 n 65 [some (iR (some l0)), some (iI l1), some (iI l2), none, some (iJ l4), none, none, none, none, none, none] [] h2) := rfl
-- TownSundaysModel.milesFor(II)I
theorem r_M_milesFor (d : Nat) (l0 : Nat) (l1 : Int) (l2 : Int) (h : IH) : rn (d + 1) 220 [iR (some l0), iI l1, iI l2] h = lp d 220 (999999 + 1) 0 [some (iR (some l0)), some (iI l1), some (iI l2), none] [] h := rn_lp rfl rfl
set_option maxRecDepth 20000 in
set_option maxHeartbeats 4000000 in
theorem e_M_milesFor (d n : Nat) (l0 : Nat) (l1 : Int) (l2 : Int) (h : IH) :
 lp d 220 (n + 1) 0 [some (iR (some l0)), some (iI l1), some (iI l2), none] [] h =
 (xck h l0 22 <|
 kI (rn d 163 [iR (some l0), iI l2] h) fun x2 h1 =>
 (if x2 = l1 then
 some (oI 0, h1)
 else
 xck h1 l0 22 <|
 kI (rn d 168 [iR (some l0), iI x2, iI l1] h1) fun x4 h3 =>
 some (oI x4, h3))) := rfl
-- TownSundaysModel.likesOf(II)I
theorem r_M_likesOf (d : Nat) (l0 : Nat) (l1 : Int) (l2 : Int) (h : IH) : rn (d + 1) 221 [iR (some l0), iI l1, iI l2] h = lp d 221 (999999 + 1) 0 [some (iR (some l0)), some (iI l1), some (iI l2)] [] h := rn_lp rfl rfl
set_option maxRecDepth 20000 in
set_option maxHeartbeats 4000000 in
theorem e_M_likesOf (d n : Nat) (l0 : Nat) (l1 : Int) (l2 : Int) (h : IH) :
 lp d 221 (n + 1) 0 [some (iR (some l0)), some (iI l1), some (iI l2)] [] h =
 (xck h l0 22 <|
 kI (rn d 220 [iR (some l0), iI l1, iI l2] h) fun x2 h1 =>
 xck h1 l0 22 <|
 kV (rn d 218 [iR (some l0), iI l1, iI l2, iI x2] h1) fun h3 =>
 xgR h3 l0 22 2 fun x4 =>
 xB x4 fun a6 =>
 xaI h3 a6 (wr (7 + l2)) fun x5 =>
 xck h3 l0 22 <|
 kI (rn d 219 [iR (some l0), iI 1, iI 99, iI x5] h3) fun x8 h7 =>
 some (oI x8, h7)) := rfl
-- TownSundaysModel.altersOf(II)I
theorem r_M_altersOf (d : Nat) (l0 : Nat) (l1 : Int) (l2 : Int) (h : IH) : rn (d + 1) 222 [iR (some l0), iI l1, iI l2] h = lp d 222 (999999 + 1) 0 [some (iR (some l0)), some (iI l1), some (iI l2)] [] h := rn_lp rfl rfl
set_option maxRecDepth 20000 in
set_option maxHeartbeats 4000000 in
theorem e_M_altersOf (d n : Nat) (l0 : Nat) (l1 : Int) (l2 : Int) (h : IH) :
 lp d 222 (n + 1) 0 [some (iR (some l0)), some (iI l1), some (iI l2)] [] h =
 (xck h l0 22 <|
 kV (rn d 218 [iR (some l0), iI l1, iI l2, iI 0] h) fun h1 =>
 xgR h1 l0 22 2 fun x2 =>
 xB x2 fun a4 =>
 xaI h1 a4 (wr (7 + l2)) fun x3 =>
 xck h1 l0 22 <|
 kI (rn d 219 [iR (some l0), iI 2, iI 9, iI x3] h1) fun x6 h5 =>
 some (oI x6, h5)) := rfl
-- TownSundaysModel.barredFrom(III)Z
theorem r_M_barredFrom (d : Nat) (l0 : Nat) (l1 : Int) (l2 : Int) (l3 : Int) (h : IH) : rn (d + 1) 223 [iR (some l0), iI l1, iI l2, iI l3] h = lp d 223 (999999 + 1) 0 [some (iR (some l0)), some (iI l1), some (iI l2), some (iI l3)] [] h := rn_lp rfl rfl
set_option maxRecDepth 20000 in
set_option maxHeartbeats 4000000 in
theorem e_M_barredFrom (d n : Nat) (l0 : Nat) (l1 : Int) (l2 : Int) (l3 : Int) (h : IH) :
 lp d 223 (n + 1) 0 [some (iR (some l0)), some (iI l1), some (iI l2), some (iI l3)] [] h =
 (xck h l0 22 <|
 kI (rn d 168 [iR (some l0), iI l3, iI l1] h) fun x2 h1 =>
 xck h1 l0 22 <|
 kV (rn d 218 [iR (some l0), iI l1, iI l2, iI x2] h1) fun h3 =>
 xck h3 l0 22 <|
 kI (rn d 219 [iR (some l0), iI 3, iI 1, iI 0] h3) fun x5 h4 =>
 (if x5 = 1 then
 xZ 1 h4
 else
 xZ 0 h4)) := rfl
-- TownSundaysModel.canSend(III)Z
theorem r_M_canSend (d : Nat) (l0 : Nat) (l1 : Int) (l2 : Int) (l3 : Int) (h : IH) : rn (d + 1) 224 [iR (some l0), iI l1, iI l2, iI l3] h = lp d 224 (999999 + 1) 0 [some (iR (some l0)), some (iI l1), some (iI l2), some (iI l3)] [] h := rn_lp rfl rfl
set_option maxRecDepth 20000 in
set_option maxHeartbeats 4000000 in
theorem e_M_canSend (d n : Nat) (l0 : Nat) (l1 : Int) (l2 : Int) (l3 : Int) (h : IH) :
 lp d 224 (n + 1) 0 [some (iR (some l0)), some (iI l1), some (iI l2), some (iI l3)] [] h =
 (xck h l0 22 <|
 kI (rn d 169 [iR (some l0), iI l2, iI l3] h) fun x2 h1 =>
 (if x2 = 0 then
 xZ 0 h1
 else
 xck h1 l0 22 <|
 kI (rn d 223 [iR (some l0), iI l3, iI l1, iI l2] h1) fun x4 h3 =>
 (if x4 = 0 then
 xZ 1 h3
 else
 xZ 0 h3))) := rfl
-- TownSundaysModel.canHave(II)Z
theorem r_M_canHave (d : Nat) (l0 : Nat) (l1 : Int) (l2 : Int) (h : IH) : rn (d + 1) 225 [iR (some l0), iI l1, iI l2] h = lp d 225 (999999 + 1) 0 [some (iR (some l0)), some (iI l1), some (iI l2), none] [] h := rn_lp rfl rfl
set_option maxRecDepth 20000 in
set_option maxHeartbeats 4000000 in
theorem e_M_canHave (d n : Nat) (l0 : Nat) (l1 : Int) (l2 : Int) (h : IH) :
 lp d 225 (n + 1) 0 [some (iR (some l0)), some (iI l1), some (iI l2), none] [] h =
 (xck h l0 22 <|
 kI (rn d 163 [iR (some l0), iI l2] h) fun x2 h1 =>
 (if x2 = l1 then
 xZ 1 h1
 else
 xck h1 l0 22 <|
 kI (rn d 224 [iR (some l0), iI l2, iI x2, iI l1] h1) fun x4 h3 =>
 (if x4 = 0 then
 xZ 0 h3
 else
 xZ 1 h3))) := rfl
-- TownSundaysModel.homeMany()I
theorem r_M_homeMany (d : Nat) (l0 : Nat) (h : IH) : rn (d + 1) 226 [iR (some l0)] h = lp d 226 (999999 + 1) 0 [some (iR (some l0)), none, none] [] h := rn_lp rfl rfl
set_option maxRecDepth 20000 in
set_option maxHeartbeats 4000000 in
theorem e_M_homeMany (d n : Nat) (l0 : Nat) (h : IH) :
 lp d 226 (n + 1) 0 [some (iR (some l0)), none, none] [] h =
 (lp d 226 n 4 [some (iR (some l0)), some (iI 0), some (iI 0)] [] h) := rfl
set_option maxRecDepth 20000 in
set_option maxHeartbeats 4000000 in
theorem e_M_homeMany_4 (d n : Nat) (l0 : Nat) (l1 : Int) (l2 : Int) (h : IH) :
 lp d 226 (n + 1) 4 [some (iR (some l0)), some (iI l1), some (iI l2)] [] h =
 (xck h l0 22 <|
 kI (rn d 160 [iR (some l0)] h) fun x2 h1 =>
 (if l2 < x2 then
 xgR h1 l0 22 2 fun x3 =>
 xB x3 fun a5 =>
 xaI h1 a5 (wr (0 + l2)) fun x4 =>
 (if x4 = l2 then
 lp d 226 n 4 [some (iR (some l0)), some (iI (wr (l1 + 1))), some (iI (wr (l2 + 1)))] [] h1
 else
 lp d 226 n 4 [some (iR (some l0)), some (iI (wr (l1 + 0))), some (iI (wr (l2 + 1)))] [] h1)
 else
 some (oI l1, h1))) := rfl
-- TownSundaysModel.keeps(I)V
theorem r_M_keeps (d : Nat) (l0 : Nat) (l1 : Int) (h : IH) : rn (d + 1) 227 [iR (some l0), iI l1] h = lp d 227 (999999 + 1) 0 [some (iR (some l0)), some (iI l1), none, none] [] h := rn_lp rfl rfl
set_option maxRecDepth 20000 in
set_option maxHeartbeats 4000000 in
theorem e_M_keeps (d n : Nat) (l0 : Nat) (l1 : Int) (h : IH) :
 lp d 227 (n + 1) 0 [some (iR (some l0)), some (iI l1), none, none] [] h =
 (xgI h l0 22 31 fun x1 =>
 (if x1 = 16 then
 lp d 227 n 14 [some (iR (some l0)), some (iI l1), some (iI 114), some (iI 0)] [] h
 else
 lp d 227 n 54 [some (iR (some l0)), some (iI l1), some (iI 114), some (iI 0)] [] h)) := rfl
set_option maxRecDepth 20000 in
set_option maxHeartbeats 4000000 in
theorem e_M_keeps_14 (d n : Nat) (l0 : Nat) (l1 : Int) (l2 : Int) (l3 : Int) (h : IH) :
 lp d 227 (n + 1) 14 [some (iR (some l0)), some (iI l1), some (iI l2), some (iI l3)] [] h =
 ((if l3 < (wr (15 * l2)) then
 xgR h l0 22 29 fun x1 =>
 xgR h l0 22 29 fun x2 =>
 xB x2 fun a4 =>
 xaI h a4 (wr (l3 + l2)) fun x3 =>
 xB x1 fun a6 =>
 xsI h a6 l3 x3 fun h5 =>
 lp d 227 n 14 [some (iR (some l0)), some (iI l1), some (iI l2), some (iI (wr (l3 + 1)))] [] h5
 else
 xgI h l0 22 31 fun x7 =>
 xpI h l0 22 31 (wr (x7 - 1)) fun h8 =>
 lp d 227 n 54 [some (iR (some l0)), some (iI l1), some (iI l2), some (iI 0)] [] h8)) := rfl
set_option maxRecDepth 20000 in
set_option maxHeartbeats 4000000 in
theorem e_M_keeps_54 (d n : Nat) (l0 : Nat) (l1 : Int) (l2 : Int) (l3 : Int) (h : IH) :
 lp d 227 (n + 1) 54 [some (iR (some l0)), some (iI l1), some (iI l2), some (iI l3)] [] h =
 ((if l3 < 113 then
 xgR h l0 22 29 fun x1 =>
 xgI h l0 22 31 fun x2 =>
 xgR h l0 22 2 fun x3 =>
 xB x3 fun a5 =>
 xaI h a5 l3 fun x4 =>
 xB x1 fun a7 =>
 xsI h a7 (wr ((wr (l2 * x2)) + l3)) x4 fun h6 =>
 lp d 227 n 54 [some (iR (some l0)), some (iI l1), some (iI l2), some (iI (wr (l3 + 1)))] [] h6
 else
 xgR h l0 22 29 fun x8 =>
 xgI h l0 22 31 fun x9 =>
 xB x8 fun a11 =>
 xsI h a11 (wr ((wr (l2 * x9)) + 113)) l1 fun h10 =>
 xgI h10 l0 22 31 fun x12 =>
 xpI h10 l0 22 31 (wr (x12 + 1)) fun h13 =>
 some (o0, h13))) := rfl
-- TownSundaysModel.undo()I
theorem r_M_undo (d : Nat) (l0 : Nat) (h : IH) : rn (d + 1) 228 [iR (some l0)] h = lp d 228 (999999 + 1) 0 [some (iR (some l0)), none, none] [] h := rn_lp rfl rfl
set_option maxRecDepth 20000 in
set_option maxHeartbeats 4000000 in
theorem e_M_undo (d n : Nat) (l0 : Nat) (h : IH) :
 lp d 228 (n + 1) 0 [some (iR (some l0)), none, none] [] h =
 (xgI h l0 22 31 fun x1 =>
 (if x1 = 0 then
 xck h l0 22 <|
 kI (rn d 150 [iR (some l0), iI (-3)] h) fun x3 h2 =>
 some (oI x3, h2)
 else
 xgI h l0 22 31 fun x4 =>
 xpI h l0 22 31 (wr (x4 - 1)) fun h5 =>
 xgI h5 l0 22 31 fun x6 =>
 lp d 228 n 34 [some (iR (some l0)), some (iI (wr (114 * x6))), some (iI 0)] [] h5)) := rfl
set_option maxRecDepth 20000 in
set_option maxHeartbeats 4000000 in
theorem e_M_undo_34 (d n : Nat) (l0 : Nat) (l1 : Int) (l2 : Int) (h : IH) :
 lp d 228 (n + 1) 34 [some (iR (some l0)), some (iI l1), some (iI l2)] [] h =
 ((if l2 < 113 then
 xgR h l0 22 2 fun x1 =>
 xgR h l0 22 29 fun x2 =>
 xB x2 fun a4 =>
 xaI h a4 (wr (l1 + l2)) fun x3 =>
 xB x1 fun a6 =>
 xsI h a6 l2 x3 fun h5 =>
 lp d 228 n 34 [some (iR (some l0)), some (iI l1), some (iI (wr (l2 + 1)))] [] h5
 else
 xgR h l0 22 29 fun x7 =>
 xB x7 fun a9 =>
 xaI h a9 (wr (l1 + 113)) fun x8 =>
 xck h l0 22 <|
 kI (rn d 151 [iR (some l0), iI x8] h) fun x11 h10 =>
 some (oI x11, h10))) := rfl
-- TownSundaysModel.goodOr(I)I
theorem r_M_goodOr (d : Nat) (l0 : Nat) (l1 : Int) (h : IH) : rn (d + 1) 229 [iR (some l0), iI l1] h = lp d 229 (999999 + 1) 0 [some (iR (some l0)), some (iI l1)] [] h := rn_lp rfl rfl
set_option maxRecDepth 20000 in
set_option maxHeartbeats 4000000 in
theorem e_M_goodOr (d n : Nat) (l0 : Nat) (l1 : Int) (h : IH) :
 lp d 229 (n + 1) 0 [some (iR (some l0)), some (iI l1)] [] h =
 ((if l1 < 0 then
 xck h l0 22 <|
 kI (rn d 150 [iR (some l0), iI l1] h) fun x2 h1 =>
 some (oI x2, h1)
 else
 xck h l0 22 <|
 kI (rn d 151 [iR (some l0), iI l1] h) fun x4 h3 =>
 some (oI x4, h3))) := rfl
