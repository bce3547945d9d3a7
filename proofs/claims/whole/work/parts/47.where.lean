/-! What stands where, one row each (by program, wip/whole/gen47.py) -/
section P47
variable {h : IH}
theorem aT_1 (s : ShT h) : hT h 1 = 0 := s.1.1
theorem aL_1 (s : ShT h) : hL h 1 = 3 := s.1.2
theorem aT_3 (s : ShT h) : hT h 3 = 21 := s.2.1
theorem aR_3_0 (s : ShT h) : hR h 3 0 = some 4 := s.2.2.1.1
theorem aR_3_1 (s : ShT h) : hR h 3 1 = some 16 := s.2.2.1.2.1
theorem aR_3_2 (s : ShT h) : hR h 3 2 = some 28 := s.2.2.1.2.2.1
theorem aR_3_3 (s : ShT h) : hR h 3 3 = some 40 := s.2.2.1.2.2.2.1
theorem aR_3_4 (s : ShT h) : hR h 3 4 = some 41 := s.2.2.1.2.2.2.2.1
theorem aR_3_5 (s : ShT h) : hR h 3 5 = some 43 := s.2.2.1.2.2.2.2.2.1
theorem aR_3_6 (s : ShT h) : hR h 3 6 = some 52 := s.2.2.1.2.2.2.2.2.2.1
theorem aR_3_7 (s : ShT h) : hR h 3 7 = some 56 := s.2.2.1.2.2.2.2.2.2.2.1
theorem aR_3_8 (s : ShT h) : hR h 3 8 = some 62 := s.2.2.1.2.2.2.2.2.2.2.2.1
theorem aR_3_9 (s : ShT h) : hR h 3 9 = some 72 := s.2.2.1.2.2.2.2.2.2.2.2.2.1
theorem aR_3_10 (s : ShT h) : hR h 3 10 = some 74 := s.2.2.1.2.2.2.2.2.2.2.2.2.2.1
theorem aR_3_11 (s : ShT h) : hR h 3 11 = some 76 := s.2.2.1.2.2.2.2.2.2.2.2.2.2.2.1
theorem aR_3_12 (s : ShT h) : hR h 3 12 = some 83 := s.2.2.1.2.2.2.2.2.2.2.2.2.2.2.2.1
theorem aR_3_13 (s : ShT h) : hR h 3 13 = some 86 := s.2.2.1.2.2.2.2.2.2.2.2.2.2.2.2.2.1
theorem aR_3_14 (s : ShT h) : hR h 3 14 = some 87 := s.2.2.1.2.2.2.2.2.2.2.2.2.2.2.2.2.2
theorem aT_4 (s : ShT h) : hT h 4 = 11 := La_t (s.2.2.2.1)
theorem aR_4_1 (s : ShT h) : hR h 4 1 = some 5 := La_r1 (s.2.2.2.1)
theorem aT_5 (s : ShT h) : hT h 5 = 0 := La_t1 (s.2.2.2.1)
theorem aL_5 (s : ShT h) : hL h 5 = 7 := La_l1 (s.2.2.2.1)
theorem aR_4_2 (s : ShT h) : hR h 4 2 = some 6 := La_r2 (s.2.2.2.1)
theorem aT_6 (s : ShT h) : hT h 6 = 0 := La_t2 (s.2.2.2.1)
theorem aL_6 (s : ShT h) : hL h 6 = 7 := La_l2 (s.2.2.2.1)
theorem aR_4_3 (s : ShT h) : hR h 4 3 = some 7 := La_r3 (s.2.2.2.1)
theorem aT_7 (s : ShT h) : hT h 7 = 0 := La_t3 (s.2.2.2.1)
theorem aL_7 (s : ShT h) : hL h 7 = 7 := La_l3 (s.2.2.2.1)
theorem aR_4_4 (s : ShT h) : hR h 4 4 = some 8 := La_r4 (s.2.2.2.1)
theorem aT_8 (s : ShT h) : hT h 8 = 0 := La_t4 (s.2.2.2.1)
theorem aL_8 (s : ShT h) : hL h 8 = 7 := La_l4 (s.2.2.2.1)
theorem aR_4_5 (s : ShT h) : hR h 4 5 = some 9 := La_r5 (s.2.2.2.1)
theorem aT_9 (s : ShT h) : hT h 9 = 0 := La_t5 (s.2.2.2.1)
theorem aL_9 (s : ShT h) : hL h 9 = 49 := La_l5 (s.2.2.2.1)
theorem aR_4_6 (s : ShT h) : hR h 4 6 = some 10 := La_r6 (s.2.2.2.1)
theorem aT_10 (s : ShT h) : hT h 10 = 0 := La_t6 (s.2.2.2.1)
theorem aL_10 (s : ShT h) : hL h 10 = 49 := La_l6 (s.2.2.2.1)
theorem aR_4_7 (s : ShT h) : hR h 4 7 = some 11 := La_r7 (s.2.2.2.1)
theorem aT_11 (s : ShT h) : hT h 11 = 0 := La_t7 (s.2.2.2.1)
theorem aL_11 (s : ShT h) : hL h 11 = 7 := La_l7 (s.2.2.2.1)
theorem aR_4_8 (s : ShT h) : hR h 4 8 = some 12 := La_r8 (s.2.2.2.1)
theorem aT_12 (s : ShT h) : hT h 12 = 0 := La_t8 (s.2.2.2.1)
theorem aL_12 (s : ShT h) : hL h 12 = 3 := La_l8 (s.2.2.2.1)
theorem aR_4_9 (s : ShT h) : hR h 4 9 = some 13 := La_r9 (s.2.2.2.1)
theorem aT_13 (s : ShT h) : hT h 13 = 0 := La_t9 (s.2.2.2.1)
theorem aL_13 (s : ShT h) : hL h 13 = 6 := La_l9 (s.2.2.2.1)
theorem aR_4_10 (s : ShT h) : hR h 4 10 = some 14 := La_r10 (s.2.2.2.1)
theorem aT_14 (s : ShT h) : hT h 14 = 0 := La_t10 (s.2.2.2.1)
theorem aL_14 (s : ShT h) : hL h 14 = 6 := La_l10 (s.2.2.2.1)
theorem aR_4_12 (s : ShT h) : hR h 4 12 = some 15 := La_r12 (s.2.2.2.1)
theorem aT_15 (s : ShT h) : hT h 15 = 4 := La_t11 (s.2.2.2.1)
theorem aL_15 (s : ShT h) : hL h 15 = 6 := La_l11 (s.2.2.2.1)
theorem aT_16 (s : ShT h) : hT h 16 = 11 := La_t (s.2.2.2.2.1)
theorem aR_16_1 (s : ShT h) : hR h 16 1 = some 17 := La_r1 (s.2.2.2.2.1)
theorem aT_17 (s : ShT h) : hT h 17 = 0 := La_t1 (s.2.2.2.2.1)
theorem aL_17 (s : ShT h) : hL h 17 = 7 := La_l1 (s.2.2.2.2.1)
theorem aR_16_2 (s : ShT h) : hR h 16 2 = some 18 := La_r2 (s.2.2.2.2.1)
theorem aT_18 (s : ShT h) : hT h 18 = 0 := La_t2 (s.2.2.2.2.1)
theorem aL_18 (s : ShT h) : hL h 18 = 7 := La_l2 (s.2.2.2.2.1)
theorem aR_16_3 (s : ShT h) : hR h 16 3 = some 19 := La_r3 (s.2.2.2.2.1)
theorem aT_19 (s : ShT h) : hT h 19 = 0 := La_t3 (s.2.2.2.2.1)
theorem aL_19 (s : ShT h) : hL h 19 = 7 := La_l3 (s.2.2.2.2.1)
theorem aR_16_4 (s : ShT h) : hR h 16 4 = some 20 := La_r4 (s.2.2.2.2.1)
theorem aT_20 (s : ShT h) : hT h 20 = 0 := La_t4 (s.2.2.2.2.1)
theorem aL_20 (s : ShT h) : hL h 20 = 7 := La_l4 (s.2.2.2.2.1)
theorem aR_16_5 (s : ShT h) : hR h 16 5 = some 21 := La_r5 (s.2.2.2.2.1)
theorem aT_21 (s : ShT h) : hT h 21 = 0 := La_t5 (s.2.2.2.2.1)
theorem aL_21 (s : ShT h) : hL h 21 = 49 := La_l5 (s.2.2.2.2.1)
theorem aR_16_6 (s : ShT h) : hR h 16 6 = some 22 := La_r6 (s.2.2.2.2.1)
theorem aT_22 (s : ShT h) : hT h 22 = 0 := La_t6 (s.2.2.2.2.1)
theorem aL_22 (s : ShT h) : hL h 22 = 49 := La_l6 (s.2.2.2.2.1)
theorem aR_16_7 (s : ShT h) : hR h 16 7 = some 23 := La_r7 (s.2.2.2.2.1)
theorem aT_23 (s : ShT h) : hT h 23 = 0 := La_t7 (s.2.2.2.2.1)
theorem aL_23 (s : ShT h) : hL h 23 = 7 := La_l7 (s.2.2.2.2.1)
theorem aR_16_8 (s : ShT h) : hR h 16 8 = some 24 := La_r8 (s.2.2.2.2.1)
theorem aT_24 (s : ShT h) : hT h 24 = 0 := La_t8 (s.2.2.2.2.1)
theorem aL_24 (s : ShT h) : hL h 24 = 3 := La_l8 (s.2.2.2.2.1)
theorem aR_16_9 (s : ShT h) : hR h 16 9 = some 25 := La_r9 (s.2.2.2.2.1)
theorem aT_25 (s : ShT h) : hT h 25 = 0 := La_t9 (s.2.2.2.2.1)
theorem aL_25 (s : ShT h) : hL h 25 = 6 := La_l9 (s.2.2.2.2.1)
theorem aR_16_10 (s : ShT h) : hR h 16 10 = some 26 := La_r10 (s.2.2.2.2.1)
theorem aT_26 (s : ShT h) : hT h 26 = 0 := La_t10 (s.2.2.2.2.1)
theorem aL_26 (s : ShT h) : hL h 26 = 6 := La_l10 (s.2.2.2.2.1)
theorem aR_16_12 (s : ShT h) : hR h 16 12 = some 27 := La_r12 (s.2.2.2.2.1)
theorem aT_27 (s : ShT h) : hT h 27 = 4 := La_t11 (s.2.2.2.2.1)
theorem aL_27 (s : ShT h) : hL h 27 = 6 := La_l11 (s.2.2.2.2.1)
theorem aT_28 (s : ShT h) : hT h 28 = 11 := La_t (s.2.2.2.2.2.1)
theorem aR_28_1 (s : ShT h) : hR h 28 1 = some 29 := La_r1 (s.2.2.2.2.2.1)
theorem aT_29 (s : ShT h) : hT h 29 = 0 := La_t1 (s.2.2.2.2.2.1)
theorem aL_29 (s : ShT h) : hL h 29 = 7 := La_l1 (s.2.2.2.2.2.1)
theorem aR_28_2 (s : ShT h) : hR h 28 2 = some 30 := La_r2 (s.2.2.2.2.2.1)
theorem aT_30 (s : ShT h) : hT h 30 = 0 := La_t2 (s.2.2.2.2.2.1)
theorem aL_30 (s : ShT h) : hL h 30 = 7 := La_l2 (s.2.2.2.2.2.1)
theorem aR_28_3 (s : ShT h) : hR h 28 3 = some 31 := La_r3 (s.2.2.2.2.2.1)
theorem aT_31 (s : ShT h) : hT h 31 = 0 := La_t3 (s.2.2.2.2.2.1)
theorem aL_31 (s : ShT h) : hL h 31 = 7 := La_l3 (s.2.2.2.2.2.1)
theorem aR_28_4 (s : ShT h) : hR h 28 4 = some 32 := La_r4 (s.2.2.2.2.2.1)
theorem aT_32 (s : ShT h) : hT h 32 = 0 := La_t4 (s.2.2.2.2.2.1)
theorem aL_32 (s : ShT h) : hL h 32 = 7 := La_l4 (s.2.2.2.2.2.1)
theorem aR_28_5 (s : ShT h) : hR h 28 5 = some 33 := La_r5 (s.2.2.2.2.2.1)
theorem aT_33 (s : ShT h) : hT h 33 = 0 := La_t5 (s.2.2.2.2.2.1)
theorem aL_33 (s : ShT h) : hL h 33 = 49 := La_l5 (s.2.2.2.2.2.1)
theorem aR_28_6 (s : ShT h) : hR h 28 6 = some 34 := La_r6 (s.2.2.2.2.2.1)
theorem aT_34 (s : ShT h) : hT h 34 = 0 := La_t6 (s.2.2.2.2.2.1)
theorem aL_34 (s : ShT h) : hL h 34 = 49 := La_l6 (s.2.2.2.2.2.1)
theorem aR_28_7 (s : ShT h) : hR h 28 7 = some 35 := La_r7 (s.2.2.2.2.2.1)
theorem aT_35 (s : ShT h) : hT h 35 = 0 := La_t7 (s.2.2.2.2.2.1)
theorem aL_35 (s : ShT h) : hL h 35 = 7 := La_l7 (s.2.2.2.2.2.1)
theorem aR_28_8 (s : ShT h) : hR h 28 8 = some 36 := La_r8 (s.2.2.2.2.2.1)
theorem aT_36 (s : ShT h) : hT h 36 = 0 := La_t8 (s.2.2.2.2.2.1)
theorem aL_36 (s : ShT h) : hL h 36 = 3 := La_l8 (s.2.2.2.2.2.1)
theorem aR_28_9 (s : ShT h) : hR h 28 9 = some 37 := La_r9 (s.2.2.2.2.2.1)
theorem aT_37 (s : ShT h) : hT h 37 = 0 := La_t9 (s.2.2.2.2.2.1)
theorem aL_37 (s : ShT h) : hL h 37 = 6 := La_l9 (s.2.2.2.2.2.1)
theorem aR_28_10 (s : ShT h) : hR h 28 10 = some 38 := La_r10 (s.2.2.2.2.2.1)
theorem aT_38 (s : ShT h) : hT h 38 = 0 := La_t10 (s.2.2.2.2.2.1)
theorem aL_38 (s : ShT h) : hL h 38 = 6 := La_l10 (s.2.2.2.2.2.1)
theorem aR_28_12 (s : ShT h) : hR h 28 12 = some 39 := La_r12 (s.2.2.2.2.2.1)
theorem aT_39 (s : ShT h) : hT h 39 = 4 := La_t11 (s.2.2.2.2.2.1)
theorem aL_39 (s : ShT h) : hL h 39 = 6 := La_l11 (s.2.2.2.2.2.1)
theorem aT_40 (s : ShT h) : hT h 40 = 5 := s.2.2.2.2.2.2.1.1
theorem aL_40 (s : ShT h) : hL h 40 = 2 := s.2.2.2.2.2.2.1.2
theorem aT_41 (s : ShT h) : hT h 41 = 18 := Tp_t (s.2.2.2.2.2.2.2.1)
theorem aR_41_0 (s : ShT h) : hR h 41 0 = some 42 := Tp_r0 (s.2.2.2.2.2.2.2.1)
theorem aT_42 (s : ShT h) : hT h 42 = 0 := Tp_t1 (s.2.2.2.2.2.2.2.1)
theorem aL_42 (s : ShT h) : hL h 42 = 400 := Tp_l1 (s.2.2.2.2.2.2.2.1)
theorem aT_43 (s : ShT h) : hT h 43 = 15 := (s.2.2.2.2.2.2.2.2.1).2.1
theorem aR_43_0 (s : ShT h) : hR h 43 0 = some 44 := (s.2.2.2.2.2.2.2.2.1).2.2.1
theorem aT_44 (s : ShT h) : hT h 44 = 19 := Tx_t ((s.2.2.2.2.2.2.2.2.1).2.2.2.1)
theorem aR_44_0 (s : ShT h) : hR h 44 0 = some 45 := Tx_r0 ((s.2.2.2.2.2.2.2.2.1).2.2.2.1)
theorem aR_44_1 (s : ShT h) : hR h 44 1 = some 46 := Tx_r1 ((s.2.2.2.2.2.2.2.2.1).2.2.2.1)
theorem aR_44_2 (s : ShT h) : hR h 44 2 = some 47 := Tx_r2 ((s.2.2.2.2.2.2.2.2.1).2.2.2.1)
theorem aR_44_3 (s : ShT h) : hR h 44 3 = some 48 := Tx_r3 ((s.2.2.2.2.2.2.2.2.1).2.2.2.1)
theorem aR_44_4 (s : ShT h) : hR h 44 4 = some 49 := Tx_r4 ((s.2.2.2.2.2.2.2.2.1).2.2.2.1)
theorem aR_44_5 (s : ShT h) : hR h 44 5 = some 50 := Tx_r5 ((s.2.2.2.2.2.2.2.2.1).2.2.2.1)
theorem aT_45 (s : ShT h) : hT h 45 = 0 := (s.2.2.2.2.2.2.2.2.1).2.2.2.2.1.1
theorem aL_45 (s : ShT h) : hL h 45 = 400 := (s.2.2.2.2.2.2.2.2.1).2.2.2.2.1.2
theorem aT_46 (s : ShT h) : hT h 46 = 0 := (s.2.2.2.2.2.2.2.2.1).2.2.2.2.2.1.1
theorem aL_46 (s : ShT h) : hL h 46 = 400 := (s.2.2.2.2.2.2.2.2.1).2.2.2.2.2.1.2
theorem aT_47 (s : ShT h) : hT h 47 = 0 := (s.2.2.2.2.2.2.2.2.1).2.2.2.2.2.2.1.1
theorem aL_47 (s : ShT h) : hL h 47 = 12 := (s.2.2.2.2.2.2.2.2.1).2.2.2.2.2.2.1.2
theorem aT_48 (s : ShT h) : hT h 48 = 0 := (s.2.2.2.2.2.2.2.2.1).2.2.2.2.2.2.2.1.1
theorem aL_48 (s : ShT h) : hL h 48 = 12 := (s.2.2.2.2.2.2.2.2.1).2.2.2.2.2.2.2.1.2
theorem aT_49 (s : ShT h) : hT h 49 = 0 := (s.2.2.2.2.2.2.2.2.1).2.2.2.2.2.2.2.2.1.1
theorem aL_49 (s : ShT h) : hL h 49 = 48 := (s.2.2.2.2.2.2.2.2.1).2.2.2.2.2.2.2.2.1.2
theorem aT_50 (s : ShT h) : hT h 50 = 0 := (s.2.2.2.2.2.2.2.2.1).2.2.2.2.2.2.2.2.2.1
theorem aL_50 (s : ShT h) : hL h 50 = 48 := (s.2.2.2.2.2.2.2.2.1).2.2.2.2.2.2.2.2.2.2
theorem aT_52 (s : ShT h) : hT h 52 = 10 := Ju_t (s.2.2.2.2.2.2.2.2.2.1)
theorem aR_52_0 (s : ShT h) : hR h 52 0 = some 53 := Ju_r0 (s.2.2.2.2.2.2.2.2.2.1)
theorem aR_52_1 (s : ShT h) : hR h 52 1 = some 54 := Ju_r1 (s.2.2.2.2.2.2.2.2.2.1)
theorem aT_53 (s : ShT h) : hT h 53 = 0 := Ju_t1 (s.2.2.2.2.2.2.2.2.2.1)
theorem aL_53 (s : ShT h) : hL h 53 = 9 := Ju_l1 (s.2.2.2.2.2.2.2.2.2.1)
theorem aT_54 (s : ShT h) : hT h 54 = 16 := Rk_t (Ju_s2 (s.2.2.2.2.2.2.2.2.2.1))
theorem aR_54_0 (s : ShT h) : hR h 54 0 = some 55 := Rk_r0 (Ju_s2 (s.2.2.2.2.2.2.2.2.2.1))
theorem aT_55 (s : ShT h) : hT h 55 = 0 := Rk_t1 (Ju_s2 (s.2.2.2.2.2.2.2.2.2.1))
theorem aL_55 (s : ShT h) : hL h 55 = 64 := Rk_l1 (Ju_s2 (s.2.2.2.2.2.2.2.2.2.1))
theorem aT_56 (s : ShT h) : hT h 56 = 12 := Mo_t (s.2.2.2.2.2.2.2.2.2.2.1)
theorem aR_56_0 (s : ShT h) : hR h 56 0 = some 57 := Mo_r0 (s.2.2.2.2.2.2.2.2.2.2.1)
theorem aR_56_1 (s : ShT h) : hR h 56 1 = some 61 := Mo_r1 (s.2.2.2.2.2.2.2.2.2.2.1)
theorem aT_61 (s : ShT h) : hT h 61 = 0 := Mo_t5 (s.2.2.2.2.2.2.2.2.2.2.1)
theorem aL_61 (s : ShT h) : hL h 61 = 7 := Mo_l5 (s.2.2.2.2.2.2.2.2.2.2.1)
theorem aT_57 (s : ShT h) : hT h 57 = 10 := Ju_t (Mo_s1 (s.2.2.2.2.2.2.2.2.2.2.1))
theorem aR_57_0 (s : ShT h) : hR h 57 0 = some 58 := Ju_r0 (Mo_s1 (s.2.2.2.2.2.2.2.2.2.2.1))
theorem aR_57_1 (s : ShT h) : hR h 57 1 = some 59 := Ju_r1 (Mo_s1 (s.2.2.2.2.2.2.2.2.2.2.1))
theorem aT_58 (s : ShT h) : hT h 58 = 0 := Ju_t1 (Mo_s1 (s.2.2.2.2.2.2.2.2.2.2.1))
theorem aL_58 (s : ShT h) : hL h 58 = 9 := Ju_l1 (Mo_s1 (s.2.2.2.2.2.2.2.2.2.2.1))
theorem aT_59 (s : ShT h) : hT h 59 = 16 := Rk_t (Ju_s2 (Mo_s1 (s.2.2.2.2.2.2.2.2.2.2.1)))
theorem aR_59_0 (s : ShT h) : hR h 59 0 = some 60 := Rk_r0 (Ju_s2 (Mo_s1 (s.2.2.2.2.2.2.2.2.2.2.1)))
theorem aT_60 (s : ShT h) : hT h 60 = 0 := Rk_t1 (Ju_s2 (Mo_s1 (s.2.2.2.2.2.2.2.2.2.2.1)))
theorem aL_60 (s : ShT h) : hL h 60 = 64 := Rk_l1 (Ju_s2 (Mo_s1 (s.2.2.2.2.2.2.2.2.2.2.1)))
theorem aT_62 (s : ShT h) : hT h 62 = 17 := (s.2.2.2.2.2.2.2.2.2.2.2.1).2.1
theorem aR_62_2 (s : ShT h) : hR h 62 2 = some 63 := (s.2.2.2.2.2.2.2.2.2.2.2.1).2.2.1
theorem aR_62_3 (s : ShT h) : hR h 62 3 = some 69 := (s.2.2.2.2.2.2.2.2.2.2.2.1).2.2.2.1
theorem aR_62_4 (s : ShT h) : hR h 62 4 = some 70 := (s.2.2.2.2.2.2.2.2.2.2.2.1).2.2.2.2.1
theorem aT_69 (s : ShT h) : hT h 69 = 0 := (s.2.2.2.2.2.2.2.2.2.2.2.1).2.2.2.2.2.1
theorem aL_69 (s : ShT h) : hL h 69 = 18 := (s.2.2.2.2.2.2.2.2.2.2.2.1).2.2.2.2.2.2.1
theorem aT_63 (s : ShT h) : hT h 63 = 12 := Mo_t ((s.2.2.2.2.2.2.2.2.2.2.2.1).2.2.2.2.2.2.2.1)
theorem aR_63_0 (s : ShT h) : hR h 63 0 = some 64 := Mo_r0 ((s.2.2.2.2.2.2.2.2.2.2.2.1).2.2.2.2.2.2.2.1)
theorem aR_63_1 (s : ShT h) : hR h 63 1 = some 68 := Mo_r1 ((s.2.2.2.2.2.2.2.2.2.2.2.1).2.2.2.2.2.2.2.1)
theorem aT_68 (s : ShT h) : hT h 68 = 0 := Mo_t5 ((s.2.2.2.2.2.2.2.2.2.2.2.1).2.2.2.2.2.2.2.1)
theorem aL_68 (s : ShT h) : hL h 68 = 7 := Mo_l5 ((s.2.2.2.2.2.2.2.2.2.2.2.1).2.2.2.2.2.2.2.1)
theorem aT_64 (s : ShT h) : hT h 64 = 10 := Ju_t (Mo_s1 ((s.2.2.2.2.2.2.2.2.2.2.2.1).2.2.2.2.2.2.2.1))
theorem aR_64_0 (s : ShT h) : hR h 64 0 = some 65 := Ju_r0 (Mo_s1 ((s.2.2.2.2.2.2.2.2.2.2.2.1).2.2.2.2.2.2.2.1))
theorem aR_64_1 (s : ShT h) : hR h 64 1 = some 66 := Ju_r1 (Mo_s1 ((s.2.2.2.2.2.2.2.2.2.2.2.1).2.2.2.2.2.2.2.1))
theorem aT_65 (s : ShT h) : hT h 65 = 0 := Ju_t1 (Mo_s1 ((s.2.2.2.2.2.2.2.2.2.2.2.1).2.2.2.2.2.2.2.1))
theorem aL_65 (s : ShT h) : hL h 65 = 9 := Ju_l1 (Mo_s1 ((s.2.2.2.2.2.2.2.2.2.2.2.1).2.2.2.2.2.2.2.1))
theorem aT_66 (s : ShT h) : hT h 66 = 16 := Rk_t (Ju_s2 (Mo_s1 ((s.2.2.2.2.2.2.2.2.2.2.2.1).2.2.2.2.2.2.2.1)))
theorem aR_66_0 (s : ShT h) : hR h 66 0 = some 67 := Rk_r0 (Ju_s2 (Mo_s1 ((s.2.2.2.2.2.2.2.2.2.2.2.1).2.2.2.2.2.2.2.1)))
theorem aT_67 (s : ShT h) : hT h 67 = 0 := Rk_t1 (Ju_s2 (Mo_s1 ((s.2.2.2.2.2.2.2.2.2.2.2.1).2.2.2.2.2.2.2.1)))
theorem aL_67 (s : ShT h) : hL h 67 = 64 := Rk_l1 (Ju_s2 (Mo_s1 ((s.2.2.2.2.2.2.2.2.2.2.2.1).2.2.2.2.2.2.2.1)))
theorem aT_70 (s : ShT h) : hT h 70 = 16 := Rk_t ((s.2.2.2.2.2.2.2.2.2.2.2.1).2.2.2.2.2.2.2.2)
theorem aR_70_0 (s : ShT h) : hR h 70 0 = some 71 := Rk_r0 ((s.2.2.2.2.2.2.2.2.2.2.2.1).2.2.2.2.2.2.2.2)
theorem aT_71 (s : ShT h) : hT h 71 = 0 := Rk_t1 ((s.2.2.2.2.2.2.2.2.2.2.2.1).2.2.2.2.2.2.2.2)
theorem aL_71 (s : ShT h) : hL h 71 = 64 := Rk_l1 ((s.2.2.2.2.2.2.2.2.2.2.2.1).2.2.2.2.2.2.2.2)
theorem aT_72 (s : ShT h) : hT h 72 = 14 := Ps_t (s.2.2.2.2.2.2.2.2.2.2.2.2.1)
theorem aR_72_2 (s : ShT h) : hR h 72 2 = some 73 := Ps_r2 (s.2.2.2.2.2.2.2.2.2.2.2.2.1)
theorem aT_73 (s : ShT h) : hT h 73 = 0 := Ps_t1 (s.2.2.2.2.2.2.2.2.2.2.2.2.1)
theorem aL_73 (s : ShT h) : hL h 73 = 1224 := Ps_l1 (s.2.2.2.2.2.2.2.2.2.2.2.2.1)
theorem aT_74 (s : ShT h) : hT h 74 = 14 := Ps_t (s.2.2.2.2.2.2.2.2.2.2.2.2.2.1)
theorem aR_74_2 (s : ShT h) : hR h 74 2 = some 75 := Ps_r2 (s.2.2.2.2.2.2.2.2.2.2.2.2.2.1)
theorem aT_75 (s : ShT h) : hT h 75 = 0 := Ps_t1 (s.2.2.2.2.2.2.2.2.2.2.2.2.2.1)
theorem aL_75 (s : ShT h) : hL h 75 = 1224 := Ps_l1 (s.2.2.2.2.2.2.2.2.2.2.2.2.2.1)
theorem aT_76 (s : ShT h) : hT h 76 = 13 := Pa_t (s.2.2.2.2.2.2.2.2.2.2.2.2.2.2.1)
theorem aR_76_0 (s : ShT h) : hR h 76 0 = some 77 := Pa_r0 (s.2.2.2.2.2.2.2.2.2.2.2.2.2.2.1)
theorem aT_77 (s : ShT h) : hT h 77 = 0 := Pa_t1 (s.2.2.2.2.2.2.2.2.2.2.2.2.2.2.1)
theorem aL_77 (s : ShT h) : hL h 77 = 49 := Pa_l1 (s.2.2.2.2.2.2.2.2.2.2.2.2.2.2.1)
theorem aR_76_1 (s : ShT h) : hR h 76 1 = some 78 := Pa_r1 (s.2.2.2.2.2.2.2.2.2.2.2.2.2.2.1)
theorem aT_78 (s : ShT h) : hT h 78 = 0 := Pa_t2 (s.2.2.2.2.2.2.2.2.2.2.2.2.2.2.1)
theorem aL_78 (s : ShT h) : hL h 78 = 7 := Pa_l2 (s.2.2.2.2.2.2.2.2.2.2.2.2.2.2.1)
theorem aR_76_2 (s : ShT h) : hR h 76 2 = some 79 := Pa_r2 (s.2.2.2.2.2.2.2.2.2.2.2.2.2.2.1)
theorem aT_79 (s : ShT h) : hT h 79 = 0 := Pa_t3 (s.2.2.2.2.2.2.2.2.2.2.2.2.2.2.1)
theorem aL_79 (s : ShT h) : hL h 79 = 49 := Pa_l3 (s.2.2.2.2.2.2.2.2.2.2.2.2.2.2.1)
theorem aR_76_3 (s : ShT h) : hR h 76 3 = some 80 := Pa_r3 (s.2.2.2.2.2.2.2.2.2.2.2.2.2.2.1)
theorem aT_80 (s : ShT h) : hT h 80 = 0 := Pa_t4 (s.2.2.2.2.2.2.2.2.2.2.2.2.2.2.1)
theorem aL_80 (s : ShT h) : hL h 80 = 128 := Pa_l4 (s.2.2.2.2.2.2.2.2.2.2.2.2.2.2.1)
theorem aR_76_4 (s : ShT h) : hR h 76 4 = some 81 := Pa_r4 (s.2.2.2.2.2.2.2.2.2.2.2.2.2.2.1)
theorem aT_81 (s : ShT h) : hT h 81 = 0 := Pa_t5 (s.2.2.2.2.2.2.2.2.2.2.2.2.2.2.1)
theorem aL_81 (s : ShT h) : hL h 81 = 128 := Pa_l5 (s.2.2.2.2.2.2.2.2.2.2.2.2.2.2.1)
theorem aR_76_5 (s : ShT h) : hR h 76 5 = some 82 := Pa_r5 (s.2.2.2.2.2.2.2.2.2.2.2.2.2.2.1)
theorem aT_82 (s : ShT h) : hT h 82 = 0 := Pa_t6 (s.2.2.2.2.2.2.2.2.2.2.2.2.2.2.1)
theorem aL_82 (s : ShT h) : hL h 82 = 7 := Pa_l6 (s.2.2.2.2.2.2.2.2.2.2.2.2.2.2.1)
theorem aT_83 (s : ShT h) : hT h 83 = 20 := (s.2.2.2.2.2.2.2.2.2.2.2.2.2.2.2.1).2.1
theorem aR_83_4 (s : ShT h) : hR h 83 4 = some 84 := (s.2.2.2.2.2.2.2.2.2.2.2.2.2.2.2.1).2.2.1
theorem aR_83_5 (s : ShT h) : hR h 83 5 = some 85 := (s.2.2.2.2.2.2.2.2.2.2.2.2.2.2.2.1).2.2.2.1
theorem aT_84 (s : ShT h) : hT h 84 = 0 := (s.2.2.2.2.2.2.2.2.2.2.2.2.2.2.2.1).2.2.2.2.1
theorem aL_84 (s : ShT h) : hL h 84 = 49 := (s.2.2.2.2.2.2.2.2.2.2.2.2.2.2.2.1).2.2.2.2.2.1
theorem aT_85 (s : ShT h) : hT h 85 = 0 := (s.2.2.2.2.2.2.2.2.2.2.2.2.2.2.2.1).2.2.2.2.2.2.1
theorem aL_85 (s : ShT h) : hL h 85 = 49 := (s.2.2.2.2.2.2.2.2.2.2.2.2.2.2.2.1).2.2.2.2.2.2.2
theorem aT_86 (s : ShT h) : hT h 86 = 1 := s.2.2.2.2.2.2.2.2.2.2.2.2.2.2.2.2.1.1
theorem aL_86 (s : ShT h) : hL h 86 = 20 := s.2.2.2.2.2.2.2.2.2.2.2.2.2.2.2.2.1.2
theorem aT_87 (s : ShT h) : hT h 87 = 0 := s.2.2.2.2.2.2.2.2.2.2.2.2.2.2.2.2.2.1
theorem aL_87 (s : ShT h) : hL h 87 = 5 := s.2.2.2.2.2.2.2.2.2.2.2.2.2.2.2.2.2.2
theorem bT_88 (s : ShM h 88) : hT h 88 = 22 := s.2.1
theorem bR_1 (s : ShM h 88) : hR h 88 1 = some 89 := s.2.2.1.1
theorem bR_2 (s : ShM h 88) : hR h 88 2 = some 90 := s.2.2.1.2.1
theorem bR_3 (s : ShM h 88) : hR h 88 3 = some 91 := s.2.2.1.2.2.1
theorem bR_4 (s : ShM h 88) : hR h 88 4 = some 92 := s.2.2.1.2.2.2.1
theorem bR_5 (s : ShM h 88) : hR h 88 5 = some 93 := s.2.2.1.2.2.2.2.1
theorem bR_7 (s : ShM h 88) : hR h 88 7 = some 94 := s.2.2.1.2.2.2.2.2.1
theorem bR_11 (s : ShM h 88) : hR h 88 11 = some 95 := s.2.2.1.2.2.2.2.2.2.1
theorem bR_12 (s : ShM h 88) : hR h 88 12 = some 96 := s.2.2.1.2.2.2.2.2.2.2.1
theorem bR_15 (s : ShM h 88) : hR h 88 15 = some 97 := s.2.2.1.2.2.2.2.2.2.2.2.1
theorem bR_16 (s : ShM h 88) : hR h 88 16 = some 98 := s.2.2.1.2.2.2.2.2.2.2.2.2.1
theorem bR_17 (s : ShM h 88) : hR h 88 17 = some 99 := s.2.2.1.2.2.2.2.2.2.2.2.2.2.1
theorem bR_26 (s : ShM h 88) : hR h 88 26 = some 100 := s.2.2.1.2.2.2.2.2.2.2.2.2.2.2.1
theorem bR_29 (s : ShM h 88) : hR h 88 29 = some 101 := s.2.2.1.2.2.2.2.2.2.2.2.2.2.2.2.1
theorem bR_30 (s : ShM h 88) : hR h 88 30 = some 102 := s.2.2.1.2.2.2.2.2.2.2.2.2.2.2.2.2.1
theorem bR_32 (s : ShM h 88) : hR h 88 32 = some 103 := s.2.2.1.2.2.2.2.2.2.2.2.2.2.2.2.2.2.1
theorem bR_33 (s : ShM h 88) : hR h 88 33 = some 104 := s.2.2.1.2.2.2.2.2.2.2.2.2.2.2.2.2.2.2.1
theorem bR_34 (s : ShM h 88) : hR h 88 34 = some 105 := s.2.2.1.2.2.2.2.2.2.2.2.2.2.2.2.2.2.2.2.1
theorem bR_35 (s : ShM h 88) : hR h 88 35 = some 106 := s.2.2.1.2.2.2.2.2.2.2.2.2.2.2.2.2.2.2.2.2.1
theorem bR_36 (s : ShM h 88) : hR h 88 36 = some 107 := s.2.2.1.2.2.2.2.2.2.2.2.2.2.2.2.2.2.2.2.2.2.1
theorem bR_39 (s : ShM h 88) : hR h 88 39 = some 108 := s.2.2.1.2.2.2.2.2.2.2.2.2.2.2.2.2.2.2.2.2.2.2.1
theorem bR_40 (s : ShM h 88) : hR h 88 40 = some 109 := s.2.2.1.2.2.2.2.2.2.2.2.2.2.2.2.2.2.2.2.2.2.2.2.1
theorem bR_41 (s : ShM h 88) : hR h 88 41 = some 110 := s.2.2.1.2.2.2.2.2.2.2.2.2.2.2.2.2.2.2.2.2.2.2.2.2.1
theorem bR_42 (s : ShM h 88) : hR h 88 42 = some 111 := s.2.2.1.2.2.2.2.2.2.2.2.2.2.2.2.2.2.2.2.2.2.2.2.2.2.1
theorem bR_43 (s : ShM h 88) : hR h 88 43 = some 112 := s.2.2.1.2.2.2.2.2.2.2.2.2.2.2.2.2.2.2.2.2.2.2.2.2.2.2.1
theorem bR_44 (s : ShM h 88) : hR h 88 44 = some 113 := s.2.2.1.2.2.2.2.2.2.2.2.2.2.2.2.2.2.2.2.2.2.2.2.2.2.2.2.1
theorem bR_45 (s : ShM h 88) : hR h 88 45 = some 114 := s.2.2.1.2.2.2.2.2.2.2.2.2.2.2.2.2.2.2.2.2.2.2.2.2.2.2.2.2.1
theorem bR_46 (s : ShM h 88) : hR h 88 46 = some 115 := s.2.2.1.2.2.2.2.2.2.2.2.2.2.2.2.2.2.2.2.2.2.2.2.2.2.2.2.2.2.1
theorem bR_53 (s : ShM h 88) : hR h 88 53 = some 116 := s.2.2.1.2.2.2.2.2.2.2.2.2.2.2.2.2.2.2.2.2.2.2.2.2.2.2.2.2.2.2.1
theorem bR_54 (s : ShM h 88) : hR h 88 54 = some 117 := s.2.2.1.2.2.2.2.2.2.2.2.2.2.2.2.2.2.2.2.2.2.2.2.2.2.2.2.2.2.2.2
theorem bT_89 (s : ShM h 88) : hT h 89 = 0 := s.2.2.2.1.1
theorem bT_90 (s : ShM h 88) : hT h 90 = 0 := s.2.2.2.1.2.1
theorem bT_91 (s : ShM h 88) : hT h 91 = 0 := s.2.2.2.1.2.2.1
theorem bT_92 (s : ShM h 88) : hT h 92 = 3 := s.2.2.2.1.2.2.2.1
theorem bT_93 (s : ShM h 88) : hT h 93 = 0 := s.2.2.2.1.2.2.2.2.1
theorem bT_94 (s : ShM h 88) : hT h 94 = 2 := s.2.2.2.1.2.2.2.2.2.1
theorem bT_95 (s : ShM h 88) : hT h 95 = 2 := s.2.2.2.1.2.2.2.2.2.2.1
theorem bT_96 (s : ShM h 88) : hT h 96 = 0 := s.2.2.2.1.2.2.2.2.2.2.2.1
theorem bT_97 (s : ShM h 88) : hT h 97 = 0 := s.2.2.2.1.2.2.2.2.2.2.2.2.1
theorem bT_98 (s : ShM h 88) : hT h 98 = 0 := s.2.2.2.1.2.2.2.2.2.2.2.2.2.1
theorem bT_99 (s : ShM h 88) : hT h 99 = 0 := s.2.2.2.1.2.2.2.2.2.2.2.2.2.2.1
theorem bT_100 (s : ShM h 88) : hT h 100 = 0 := s.2.2.2.1.2.2.2.2.2.2.2.2.2.2.2.1
theorem bT_101 (s : ShM h 88) : hT h 101 = 0 := s.2.2.2.1.2.2.2.2.2.2.2.2.2.2.2.2.1
theorem bT_102 (s : ShM h 88) : hT h 102 = 0 := s.2.2.2.1.2.2.2.2.2.2.2.2.2.2.2.2.2.1
theorem bT_103 (s : ShM h 88) : hT h 103 = 0 := s.2.2.2.1.2.2.2.2.2.2.2.2.2.2.2.2.2.2.1
theorem bT_104 (s : ShM h 88) : hT h 104 = 0 := s.2.2.2.1.2.2.2.2.2.2.2.2.2.2.2.2.2.2.2.1
theorem bT_105 (s : ShM h 88) : hT h 105 = 0 := s.2.2.2.1.2.2.2.2.2.2.2.2.2.2.2.2.2.2.2.2.1
theorem bT_106 (s : ShM h 88) : hT h 106 = 0 := s.2.2.2.1.2.2.2.2.2.2.2.2.2.2.2.2.2.2.2.2.2.1
theorem bT_107 (s : ShM h 88) : hT h 107 = 3 := s.2.2.2.1.2.2.2.2.2.2.2.2.2.2.2.2.2.2.2.2.2.2.1
theorem bT_108 (s : ShM h 88) : hT h 108 = 0 := s.2.2.2.1.2.2.2.2.2.2.2.2.2.2.2.2.2.2.2.2.2.2.2.1
theorem bT_109 (s : ShM h 88) : hT h 109 = 0 := s.2.2.2.1.2.2.2.2.2.2.2.2.2.2.2.2.2.2.2.2.2.2.2.2.1
theorem bT_110 (s : ShM h 88) : hT h 110 = 0 := s.2.2.2.1.2.2.2.2.2.2.2.2.2.2.2.2.2.2.2.2.2.2.2.2.2.1
theorem bT_111 (s : ShM h 88) : hT h 111 = 0 := s.2.2.2.1.2.2.2.2.2.2.2.2.2.2.2.2.2.2.2.2.2.2.2.2.2.2.1
theorem bT_112 (s : ShM h 88) : hT h 112 = 3 := s.2.2.2.1.2.2.2.2.2.2.2.2.2.2.2.2.2.2.2.2.2.2.2.2.2.2.2.1
theorem bT_113 (s : ShM h 88) : hT h 113 = 0 := s.2.2.2.1.2.2.2.2.2.2.2.2.2.2.2.2.2.2.2.2.2.2.2.2.2.2.2.2.1
theorem bT_114 (s : ShM h 88) : hT h 114 = 0 := s.2.2.2.1.2.2.2.2.2.2.2.2.2.2.2.2.2.2.2.2.2.2.2.2.2.2.2.2.2.1
theorem bT_115 (s : ShM h 88) : hT h 115 = 1 := s.2.2.2.1.2.2.2.2.2.2.2.2.2.2.2.2.2.2.2.2.2.2.2.2.2.2.2.2.2.2.1
theorem bT_116 (s : ShM h 88) : hT h 116 = 1 := s.2.2.2.1.2.2.2.2.2.2.2.2.2.2.2.2.2.2.2.2.2.2.2.2.2.2.2.2.2.2.2.1
theorem bT_117 (s : ShM h 88) : hT h 117 = 0 := s.2.2.2.1.2.2.2.2.2.2.2.2.2.2.2.2.2.2.2.2.2.2.2.2.2.2.2.2.2.2.2.2
theorem bL_89 (s : ShM h 88) : hL h 89 = 7 := s.2.2.2.2.1
theorem bL_90 (s : ShM h 88) : hL h 90 = 5794 := s.2.2.2.2.2.1
theorem bL_91 (s : ShM h 88) : hL h 91 = 11588 := s.2.2.2.2.2.2.1
theorem bL_92 (s : ShM h 88) : hL h 92 = 2 := s.2.2.2.2.2.2.2.1
theorem bL_93 (s : ShM h 88) : hL h 93 = 226 := s.2.2.2.2.2.2.2.2.1
theorem bL_94 (s : ShM h 88) : hL h 94 = 135 := s.2.2.2.2.2.2.2.2.2.1
theorem bL_95 (s : ShM h 88) : hL h 95 = 400 := s.2.2.2.2.2.2.2.2.2.2.1
theorem bL_96 (s : ShM h 88) : hL h 96 = 5 := s.2.2.2.2.2.2.2.2.2.2.2.1
theorem bL_97 (s : ShM h 88) : hL h 97 = 401 := s.2.2.2.2.2.2.2.2.2.2.2.2.1
theorem bL_98 (s : ShM h 88) : hL h 98 = 401 := s.2.2.2.2.2.2.2.2.2.2.2.2.2.1
theorem bL_99 (s : ShM h 88) : hL h 99 = 401 := s.2.2.2.2.2.2.2.2.2.2.2.2.2.2.1
theorem bL_100 (s : ShM h 88) : hL h 100 = 9 := s.2.2.2.2.2.2.2.2.2.2.2.2.2.2.2.1
theorem bL_101 (s : ShM h 88) : hL h 101 = 1824 := s.2.2.2.2.2.2.2.2.2.2.2.2.2.2.2.2.1
theorem bL_102 (s : ShM h 88) : hL h 102 = 1824 := s.2.2.2.2.2.2.2.2.2.2.2.2.2.2.2.2.2.1
theorem bL_103 (s : ShM h 88) : hL h 103 = 7 := s.2.2.2.2.2.2.2.2.2.2.2.2.2.2.2.2.2.2.1
theorem bL_104 (s : ShM h 88) : hL h 104 = 7 := s.2.2.2.2.2.2.2.2.2.2.2.2.2.2.2.2.2.2.2.1
theorem bL_105 (s : ShM h 88) : hL h 105 = 7 := s.2.2.2.2.2.2.2.2.2.2.2.2.2.2.2.2.2.2.2.2.1
theorem bL_106 (s : ShM h 88) : hL h 106 = 49 := s.2.2.2.2.2.2.2.2.2.2.2.2.2.2.2.2.2.2.2.2.2.1
theorem bL_107 (s : ShM h 88) : hL h 107 = 49 := s.2.2.2.2.2.2.2.2.2.2.2.2.2.2.2.2.2.2.2.2.2.2.1
theorem bL_108 (s : ShM h 88) : hL h 108 = 5040 := s.2.2.2.2.2.2.2.2.2.2.2.2.2.2.2.2.2.2.2.2.2.2.2.1
theorem bL_109 (s : ShM h 88) : hL h 109 = 5040 := s.2.2.2.2.2.2.2.2.2.2.2.2.2.2.2.2.2.2.2.2.2.2.2.2.1
theorem bL_110 (s : ShM h 88) : hL h 110 = 5040 := s.2.2.2.2.2.2.2.2.2.2.2.2.2.2.2.2.2.2.2.2.2.2.2.2.2.1
theorem bL_111 (s : ShM h 88) : hL h 111 = 7 := s.2.2.2.2.2.2.2.2.2.2.2.2.2.2.2.2.2.2.2.2.2.2.2.2.2.2.1
theorem bL_112 (s : ShM h 88) : hL h 112 = 343 := s.2.2.2.2.2.2.2.2.2.2.2.2.2.2.2.2.2.2.2.2.2.2.2.2.2.2.2.1
theorem bL_113 (s : ShM h 88) : hL h 113 = 7 := s.2.2.2.2.2.2.2.2.2.2.2.2.2.2.2.2.2.2.2.2.2.2.2.2.2.2.2.2.1
theorem bL_114 (s : ShM h 88) : hL h 114 = 7 := s.2.2.2.2.2.2.2.2.2.2.2.2.2.2.2.2.2.2.2.2.2.2.2.2.2.2.2.2.2.1
theorem bL_115 (s : ShM h 88) : hL h 115 = 21 := s.2.2.2.2.2.2.2.2.2.2.2.2.2.2.2.2.2.2.2.2.2.2.2.2.2.2.2.2.2.2.1
theorem bL_116 (s : ShM h 88) : hL h 116 = 3 := s.2.2.2.2.2.2.2.2.2.2.2.2.2.2.2.2.2.2.2.2.2.2.2.2.2.2.2.2.2.2.2.1
theorem bL_117 (s : ShM h 88) : hL h 117 = 113 := s.2.2.2.2.2.2.2.2.2.2.2.2.2.2.2.2.2.2.2.2.2.2.2.2.2.2.2.2.2.2.2.2
end P47
