/-! One call on a new object: the reference (by program, wip/whole/gen40.py) -/
section P40
variable {d : Nat} {h : IH} {I J : Nat → Nat → Int}
theorem M_fin {I' J' : Nat → Nat → Int} {v v' : Int} (e : v = v') (q : I' 0 = I 0) : ∃ I1 J1, some ((oI v, st h I' J') : IR) = some (oI v', st h I1 J1) ∧ I1 0 = I 0 := by
  subst e
  exact ⟨I', J', rfl, q⟩
theorem m_I (s : StM h I J) {b : Nat} (b1 : 88 ≤ b) (b2 : b < 118) : I b = startM b := s.2.1 b b1 b2
theorem m_t88 (s : StM h I J) : hT h 88 = 22 := s.1.2.1
theorem m_r1 (s : StM h I J) : hR h 88 1 = some 89 := s.1.2.2.1.1
theorem m_r2 (s : StM h I J) : hR h 88 2 = some 90 := s.1.2.2.1.2.1
theorem m_r3 (s : StM h I J) : hR h 88 3 = some 91 := s.1.2.2.1.2.2.1
theorem m_r4 (s : StM h I J) : hR h 88 4 = some 92 := s.1.2.2.1.2.2.2.1
theorem m_r5 (s : StM h I J) : hR h 88 5 = some 93 := s.1.2.2.1.2.2.2.2.1
theorem m_r7 (s : StM h I J) : hR h 88 7 = some 94 := s.1.2.2.1.2.2.2.2.2.1
theorem m_r11 (s : StM h I J) : hR h 88 11 = some 95 := s.1.2.2.1.2.2.2.2.2.2.1
theorem m_r12 (s : StM h I J) : hR h 88 12 = some 96 := s.1.2.2.1.2.2.2.2.2.2.2.1
theorem m_r15 (s : StM h I J) : hR h 88 15 = some 97 := s.1.2.2.1.2.2.2.2.2.2.2.2.1
theorem m_r16 (s : StM h I J) : hR h 88 16 = some 98 := s.1.2.2.1.2.2.2.2.2.2.2.2.2.1
theorem m_r17 (s : StM h I J) : hR h 88 17 = some 99 := s.1.2.2.1.2.2.2.2.2.2.2.2.2.2.1
theorem m_r26 (s : StM h I J) : hR h 88 26 = some 100 := s.1.2.2.1.2.2.2.2.2.2.2.2.2.2.2.1
theorem m_r29 (s : StM h I J) : hR h 88 29 = some 101 := s.1.2.2.1.2.2.2.2.2.2.2.2.2.2.2.2.1
theorem m_r30 (s : StM h I J) : hR h 88 30 = some 102 := s.1.2.2.1.2.2.2.2.2.2.2.2.2.2.2.2.2.1
theorem m_r32 (s : StM h I J) : hR h 88 32 = some 103 := s.1.2.2.1.2.2.2.2.2.2.2.2.2.2.2.2.2.2.1
theorem m_r33 (s : StM h I J) : hR h 88 33 = some 104 := s.1.2.2.1.2.2.2.2.2.2.2.2.2.2.2.2.2.2.2.1
theorem m_r34 (s : StM h I J) : hR h 88 34 = some 105 := s.1.2.2.1.2.2.2.2.2.2.2.2.2.2.2.2.2.2.2.2.1
theorem m_r35 (s : StM h I J) : hR h 88 35 = some 106 := s.1.2.2.1.2.2.2.2.2.2.2.2.2.2.2.2.2.2.2.2.2.1
theorem m_r36 (s : StM h I J) : hR h 88 36 = some 107 := s.1.2.2.1.2.2.2.2.2.2.2.2.2.2.2.2.2.2.2.2.2.2.1
theorem m_r39 (s : StM h I J) : hR h 88 39 = some 108 := s.1.2.2.1.2.2.2.2.2.2.2.2.2.2.2.2.2.2.2.2.2.2.2.1
theorem m_r40 (s : StM h I J) : hR h 88 40 = some 109 := s.1.2.2.1.2.2.2.2.2.2.2.2.2.2.2.2.2.2.2.2.2.2.2.2.1
theorem m_r41 (s : StM h I J) : hR h 88 41 = some 110 := s.1.2.2.1.2.2.2.2.2.2.2.2.2.2.2.2.2.2.2.2.2.2.2.2.2.1
theorem m_r42 (s : StM h I J) : hR h 88 42 = some 111 := s.1.2.2.1.2.2.2.2.2.2.2.2.2.2.2.2.2.2.2.2.2.2.2.2.2.2.1
theorem m_r43 (s : StM h I J) : hR h 88 43 = some 112 := s.1.2.2.1.2.2.2.2.2.2.2.2.2.2.2.2.2.2.2.2.2.2.2.2.2.2.2.1
theorem m_r44 (s : StM h I J) : hR h 88 44 = some 113 := s.1.2.2.1.2.2.2.2.2.2.2.2.2.2.2.2.2.2.2.2.2.2.2.2.2.2.2.2.1
theorem m_r45 (s : StM h I J) : hR h 88 45 = some 114 := s.1.2.2.1.2.2.2.2.2.2.2.2.2.2.2.2.2.2.2.2.2.2.2.2.2.2.2.2.2.1
theorem m_r46 (s : StM h I J) : hR h 88 46 = some 115 := s.1.2.2.1.2.2.2.2.2.2.2.2.2.2.2.2.2.2.2.2.2.2.2.2.2.2.2.2.2.2.1
theorem m_r53 (s : StM h I J) : hR h 88 53 = some 116 := s.1.2.2.1.2.2.2.2.2.2.2.2.2.2.2.2.2.2.2.2.2.2.2.2.2.2.2.2.2.2.2.1
theorem m_r54 (s : StM h I J) : hR h 88 54 = some 117 := s.1.2.2.1.2.2.2.2.2.2.2.2.2.2.2.2.2.2.2.2.2.2.2.2.2.2.2.2.2.2.2.2
theorem m_t89 (s : StM h I J) : hT h 89 = 0 := s.1.2.2.2.1.1
theorem m_t90 (s : StM h I J) : hT h 90 = 0 := s.1.2.2.2.1.2.1
theorem m_t91 (s : StM h I J) : hT h 91 = 0 := s.1.2.2.2.1.2.2.1
theorem m_t92 (s : StM h I J) : hT h 92 = 3 := s.1.2.2.2.1.2.2.2.1
theorem m_t93 (s : StM h I J) : hT h 93 = 0 := s.1.2.2.2.1.2.2.2.2.1
theorem m_t94 (s : StM h I J) : hT h 94 = 2 := s.1.2.2.2.1.2.2.2.2.2.1
theorem m_t95 (s : StM h I J) : hT h 95 = 2 := s.1.2.2.2.1.2.2.2.2.2.2.1
theorem m_t96 (s : StM h I J) : hT h 96 = 0 := s.1.2.2.2.1.2.2.2.2.2.2.2.1
theorem m_t97 (s : StM h I J) : hT h 97 = 0 := s.1.2.2.2.1.2.2.2.2.2.2.2.2.1
theorem m_t98 (s : StM h I J) : hT h 98 = 0 := s.1.2.2.2.1.2.2.2.2.2.2.2.2.2.1
theorem m_t99 (s : StM h I J) : hT h 99 = 0 := s.1.2.2.2.1.2.2.2.2.2.2.2.2.2.2.1
theorem m_t100 (s : StM h I J) : hT h 100 = 0 := s.1.2.2.2.1.2.2.2.2.2.2.2.2.2.2.2.1
theorem m_t101 (s : StM h I J) : hT h 101 = 0 := s.1.2.2.2.1.2.2.2.2.2.2.2.2.2.2.2.2.1
theorem m_t102 (s : StM h I J) : hT h 102 = 0 := s.1.2.2.2.1.2.2.2.2.2.2.2.2.2.2.2.2.2.1
theorem m_t103 (s : StM h I J) : hT h 103 = 0 := s.1.2.2.2.1.2.2.2.2.2.2.2.2.2.2.2.2.2.2.1
theorem m_t104 (s : StM h I J) : hT h 104 = 0 := s.1.2.2.2.1.2.2.2.2.2.2.2.2.2.2.2.2.2.2.2.1
theorem m_t105 (s : StM h I J) : hT h 105 = 0 := s.1.2.2.2.1.2.2.2.2.2.2.2.2.2.2.2.2.2.2.2.2.1
theorem m_t106 (s : StM h I J) : hT h 106 = 0 := s.1.2.2.2.1.2.2.2.2.2.2.2.2.2.2.2.2.2.2.2.2.2.1
theorem m_t107 (s : StM h I J) : hT h 107 = 3 := s.1.2.2.2.1.2.2.2.2.2.2.2.2.2.2.2.2.2.2.2.2.2.2.1
theorem m_t108 (s : StM h I J) : hT h 108 = 0 := s.1.2.2.2.1.2.2.2.2.2.2.2.2.2.2.2.2.2.2.2.2.2.2.2.1
theorem m_t109 (s : StM h I J) : hT h 109 = 0 := s.1.2.2.2.1.2.2.2.2.2.2.2.2.2.2.2.2.2.2.2.2.2.2.2.2.1
theorem m_t110 (s : StM h I J) : hT h 110 = 0 := s.1.2.2.2.1.2.2.2.2.2.2.2.2.2.2.2.2.2.2.2.2.2.2.2.2.2.1
theorem m_t111 (s : StM h I J) : hT h 111 = 0 := s.1.2.2.2.1.2.2.2.2.2.2.2.2.2.2.2.2.2.2.2.2.2.2.2.2.2.2.1
theorem m_t112 (s : StM h I J) : hT h 112 = 3 := s.1.2.2.2.1.2.2.2.2.2.2.2.2.2.2.2.2.2.2.2.2.2.2.2.2.2.2.2.1
theorem m_t113 (s : StM h I J) : hT h 113 = 0 := s.1.2.2.2.1.2.2.2.2.2.2.2.2.2.2.2.2.2.2.2.2.2.2.2.2.2.2.2.2.1
theorem m_t114 (s : StM h I J) : hT h 114 = 0 := s.1.2.2.2.1.2.2.2.2.2.2.2.2.2.2.2.2.2.2.2.2.2.2.2.2.2.2.2.2.2.1
theorem m_t115 (s : StM h I J) : hT h 115 = 1 := s.1.2.2.2.1.2.2.2.2.2.2.2.2.2.2.2.2.2.2.2.2.2.2.2.2.2.2.2.2.2.2.1
theorem m_t116 (s : StM h I J) : hT h 116 = 1 := s.1.2.2.2.1.2.2.2.2.2.2.2.2.2.2.2.2.2.2.2.2.2.2.2.2.2.2.2.2.2.2.2.1
theorem m_t117 (s : StM h I J) : hT h 117 = 0 := s.1.2.2.2.1.2.2.2.2.2.2.2.2.2.2.2.2.2.2.2.2.2.2.2.2.2.2.2.2.2.2.2.2
theorem m_l89 (s : StM h I J) : hL h 89 = 7 := s.1.2.2.2.2.1
theorem m_l90 (s : StM h I J) : hL h 90 = 5794 := s.1.2.2.2.2.2.1
theorem m_l91 (s : StM h I J) : hL h 91 = 11588 := s.1.2.2.2.2.2.2.1
theorem m_l92 (s : StM h I J) : hL h 92 = 2 := s.1.2.2.2.2.2.2.2.1
theorem m_l93 (s : StM h I J) : hL h 93 = 226 := s.1.2.2.2.2.2.2.2.2.1
theorem m_l94 (s : StM h I J) : hL h 94 = 135 := s.1.2.2.2.2.2.2.2.2.2.1
theorem m_l95 (s : StM h I J) : hL h 95 = 400 := s.1.2.2.2.2.2.2.2.2.2.2.1
theorem m_l96 (s : StM h I J) : hL h 96 = 5 := s.1.2.2.2.2.2.2.2.2.2.2.2.1
theorem m_l97 (s : StM h I J) : hL h 97 = 401 := s.1.2.2.2.2.2.2.2.2.2.2.2.2.1
theorem m_l98 (s : StM h I J) : hL h 98 = 401 := s.1.2.2.2.2.2.2.2.2.2.2.2.2.2.1
theorem m_l99 (s : StM h I J) : hL h 99 = 401 := s.1.2.2.2.2.2.2.2.2.2.2.2.2.2.2.1
theorem m_l100 (s : StM h I J) : hL h 100 = 9 := s.1.2.2.2.2.2.2.2.2.2.2.2.2.2.2.2.1
theorem m_l101 (s : StM h I J) : hL h 101 = 1824 := s.1.2.2.2.2.2.2.2.2.2.2.2.2.2.2.2.2.1
theorem m_l102 (s : StM h I J) : hL h 102 = 1824 := s.1.2.2.2.2.2.2.2.2.2.2.2.2.2.2.2.2.2.1
theorem m_l103 (s : StM h I J) : hL h 103 = 7 := s.1.2.2.2.2.2.2.2.2.2.2.2.2.2.2.2.2.2.2.1
theorem m_l104 (s : StM h I J) : hL h 104 = 7 := s.1.2.2.2.2.2.2.2.2.2.2.2.2.2.2.2.2.2.2.2.1
theorem m_l105 (s : StM h I J) : hL h 105 = 7 := s.1.2.2.2.2.2.2.2.2.2.2.2.2.2.2.2.2.2.2.2.2.1
theorem m_l106 (s : StM h I J) : hL h 106 = 49 := s.1.2.2.2.2.2.2.2.2.2.2.2.2.2.2.2.2.2.2.2.2.2.1
theorem m_l107 (s : StM h I J) : hL h 107 = 49 := s.1.2.2.2.2.2.2.2.2.2.2.2.2.2.2.2.2.2.2.2.2.2.2.1
theorem m_l108 (s : StM h I J) : hL h 108 = 5040 := s.1.2.2.2.2.2.2.2.2.2.2.2.2.2.2.2.2.2.2.2.2.2.2.2.1
theorem m_l109 (s : StM h I J) : hL h 109 = 5040 := s.1.2.2.2.2.2.2.2.2.2.2.2.2.2.2.2.2.2.2.2.2.2.2.2.2.1
theorem m_l110 (s : StM h I J) : hL h 110 = 5040 := s.1.2.2.2.2.2.2.2.2.2.2.2.2.2.2.2.2.2.2.2.2.2.2.2.2.2.1
theorem m_l111 (s : StM h I J) : hL h 111 = 7 := s.1.2.2.2.2.2.2.2.2.2.2.2.2.2.2.2.2.2.2.2.2.2.2.2.2.2.2.1
theorem m_l112 (s : StM h I J) : hL h 112 = 343 := s.1.2.2.2.2.2.2.2.2.2.2.2.2.2.2.2.2.2.2.2.2.2.2.2.2.2.2.2.1
theorem m_l113 (s : StM h I J) : hL h 113 = 7 := s.1.2.2.2.2.2.2.2.2.2.2.2.2.2.2.2.2.2.2.2.2.2.2.2.2.2.2.2.2.1
theorem m_l114 (s : StM h I J) : hL h 114 = 7 := s.1.2.2.2.2.2.2.2.2.2.2.2.2.2.2.2.2.2.2.2.2.2.2.2.2.2.2.2.2.2.1
theorem m_l115 (s : StM h I J) : hL h 115 = 21 := s.1.2.2.2.2.2.2.2.2.2.2.2.2.2.2.2.2.2.2.2.2.2.2.2.2.2.2.2.2.2.2.1
theorem m_l116 (s : StM h I J) : hL h 116 = 3 := s.1.2.2.2.2.2.2.2.2.2.2.2.2.2.2.2.2.2.2.2.2.2.2.2.2.2.2.2.2.2.2.2.1
theorem m_l117 (s : StM h I J) : hL h 117 = 113 := s.1.2.2.2.2.2.2.2.2.2.2.2.2.2.2.2.2.2.2.2.2.2.2.2.2.2.2.2.2.2.2.2.2
theorem pM_town (s : StM h I J) (x y : Int) : ∃ I1 J1, rn (d + 8) 164 [iR (some 88), iI x, iI y] (st h I J) = some (oI (if x < 0 ∨ 9 < x ∨ y < 0 ∨ 9 < y then -1 else 0), st h I1 J1) ∧ I1 0 = I 0 := by
  rw [r_M_town, e_M_town, r_M_lies, e_M_lies]
  by_cases c1 : x < 0
  · rw [if_pos c1, xZ_0, kI_o, if_pos (by first | rfl | omega | decide), yck (m_t88 s), r_M_refuses, e_M_refuses, ypI (m_t88 s) (by omega), ygR (m_t88 s) (m_r1 s), xB_s]
    try rw [show wr (- (-1)) = (1 : Int) from by first | rfl | decide]
    rw [yaIv (i := 1) (j := 1) (x := 0) (m_t89 s) (m_l89 s) rfl (by omega) (by first | rfl | (simp (disch := omega) only [up_na, up_ni, up_eq, cpy_n]; done) | (simp (disch := omega) only [up_na, up_ni, up_eq, cpy_n]; first | rfl | (exact congrFun (m_I s (by omega) (by omega)) _))), xB_s]
    try rw [show wr (- (-1)) = (1 : Int) from by first | rfl | decide]
    try rw [show wr (0 + 1) = (1 : Int) from by first | rfl | decide]
    rw [zSI (i := 1) (j := 1) (m_t89 s) (by omega) (m_l89 s) rfl (by omega), kI_o]
    exact M_fin (by first | rfl | omega | (rw [if_pos (by omega)]; done) | (rw [if_neg (by omega)]; done)) (by first | rfl | (simp (disch := omega) only [up_na, cpy_n]; done))
  · rw [if_neg c1]
    by_cases c2 : x ≤ 9
    · rw [if_pos c2, xZ_1, kI_o, if_neg (by first | rfl | omega | decide), r_M_lies, e_M_lies]
      by_cases c3 : y < 0
      · rw [if_pos c3, xZ_0, kI_o, if_pos (by first | rfl | omega | decide), yck (m_t88 s), r_M_refuses, e_M_refuses, ypI (m_t88 s) (by omega), ygR (m_t88 s) (m_r1 s), xB_s]
        try rw [show wr (- (-1)) = (1 : Int) from by first | rfl | decide]
        rw [yaIv (i := 1) (j := 1) (x := 0) (m_t89 s) (m_l89 s) rfl (by omega) (by first | rfl | (simp (disch := omega) only [up_na, up_ni, up_eq, cpy_n]; done) | (simp (disch := omega) only [up_na, up_ni, up_eq, cpy_n]; first | rfl | (exact congrFun (m_I s (by omega) (by omega)) _))), xB_s]
        try rw [show wr (- (-1)) = (1 : Int) from by first | rfl | decide]
        try rw [show wr (0 + 1) = (1 : Int) from by first | rfl | decide]
        rw [zSI (i := 1) (j := 1) (m_t89 s) (by omega) (m_l89 s) rfl (by omega), kI_o]
        exact M_fin (by first | rfl | omega | (rw [if_pos (by omega)]; done) | (rw [if_neg (by omega)]; done)) (by first | rfl | (simp (disch := omega) only [up_na, cpy_n]; done))
      · rw [if_neg c3]
        by_cases c4 : y ≤ 9
        · rw [if_pos c4, xZ_1, kI_o, if_neg (by first | rfl | omega | decide), yck (m_t88 s), r_M_townMany, e_M_townMany, ygR (m_t88 s) (m_r2 s), xB_s, yaIv (i := 183) (j := 183) (x := 0) (m_t90 s) (m_l90 s) rfl (by omega) (by first | rfl | (exact congrFun (m_I s (by omega) (by omega)) _)), kI_o, if_neg (by first | rfl | omega | decide), ygR (m_t88 s) (m_r2 s), xB_s]
          try rw [show wr (0 + 0) = (0 : Int) from by first | rfl | decide]
          rw [zSI (i := 0) (j := 0) (m_t90 s) (by omega) (m_l90 s) rfl (by omega), ygR (m_t88 s) (m_r2 s), xB_s]
          try rw [show wr (7 + 0) = (7 : Int) from by first | rfl | decide]
          rw [zSI (i := 7) (j := 7) (m_t90 s) (by omega) (m_l90 s) rfl (by omega), ygR (m_t88 s) (m_r2 s), xB_s]
          try rw [show wr (113 + 0) = (113 : Int) from by first | rfl | decide]
          rw [zSI (i := 113) (j := 113) (m_t90 s) (by omega) (m_l90 s) rfl (by omega), ygR (m_t88 s) (m_r2 s), xB_s, yaIv (i := 183) (j := 183) (x := 0) (m_t90 s) (m_l90 s) rfl (by omega) (by first | rfl | (simp (disch := omega) only [up_na, up_ni, up_eq, cpy_n]; done) | (simp (disch := omega) only [up_na, up_ni, up_eq, cpy_n]; first | rfl | (exact congrFun (m_I s (by omega) (by omega)) _))), xB_s]
          try rw [show wr (0 + 1) = (1 : Int) from by first | rfl | decide]
          rw [zSI (i := 183) (j := 183) (m_t90 s) (by omega) (m_l90 s) rfl (by omega), yck (m_t88 s), r_M_settled, e_M_settled, ypI (m_t88 s) (by omega), yck (m_t88 s), r_M_good, e_M_good, ypI (m_t88 s) (by omega), kI_o, kI_o]
          exact M_fin (by first | rfl | omega | (rw [if_pos (by omega)]; done) | (rw [if_neg (by omega)]; done)) (by first | rfl | (simp (disch := omega) only [up_na, cpy_n]; done))
        · rw [if_neg c4, xZ_0, kI_o, if_pos (by first | rfl | omega | decide), yck (m_t88 s), r_M_refuses, e_M_refuses, ypI (m_t88 s) (by omega), ygR (m_t88 s) (m_r1 s), xB_s]
          try rw [show wr (- (-1)) = (1 : Int) from by first | rfl | decide]
          rw [yaIv (i := 1) (j := 1) (x := 0) (m_t89 s) (m_l89 s) rfl (by omega) (by first | rfl | (simp (disch := omega) only [up_na, up_ni, up_eq, cpy_n]; done) | (simp (disch := omega) only [up_na, up_ni, up_eq, cpy_n]; first | rfl | (exact congrFun (m_I s (by omega) (by omega)) _))), xB_s]
          try rw [show wr (- (-1)) = (1 : Int) from by first | rfl | decide]
          try rw [show wr (0 + 1) = (1 : Int) from by first | rfl | decide]
          rw [zSI (i := 1) (j := 1) (m_t89 s) (by omega) (m_l89 s) rfl (by omega), kI_o]
          exact M_fin (by first | rfl | omega | (rw [if_pos (by omega)]; done) | (rw [if_neg (by omega)]; done)) (by first | rfl | (simp (disch := omega) only [up_na, cpy_n]; done))
    · rw [if_neg c2, xZ_0, kI_o, if_pos (by first | rfl | omega | decide), yck (m_t88 s), r_M_refuses, e_M_refuses, ypI (m_t88 s) (by omega), ygR (m_t88 s) (m_r1 s), xB_s]
      try rw [show wr (- (-1)) = (1 : Int) from by first | rfl | decide]
      rw [yaIv (i := 1) (j := 1) (x := 0) (m_t89 s) (m_l89 s) rfl (by omega) (by first | rfl | (simp (disch := omega) only [up_na, up_ni, up_eq, cpy_n]; done) | (simp (disch := omega) only [up_na, up_ni, up_eq, cpy_n]; first | rfl | (exact congrFun (m_I s (by omega) (by omega)) _))), xB_s]
      try rw [show wr (- (-1)) = (1 : Int) from by first | rfl | decide]
      try rw [show wr (0 + 1) = (1 : Int) from by first | rfl | decide]
      rw [zSI (i := 1) (j := 1) (m_t89 s) (by omega) (m_l89 s) rfl (by omega), kI_o]
      exact M_fin (by first | rfl | omega | (rw [if_pos (by omega)]; done) | (rw [if_neg (by omega)]; done)) (by first | rfl | (simp (disch := omega) only [up_na, cpy_n]; done))
theorem pM_of (s : StM h I J) (x y : Int) : ∃ I1 J1, rn (d + 8) 165 [iR (some 88), iI x, iI y] (st h I J) = some (oI (-1), st h I1 J1) ∧ I1 0 = I 0 := by
  rw [r_M_of, e_M_of, yck (m_t88 s), r_M_isTown, e_M_isTown, yck (m_t88 s), r_M_townMany, e_M_townMany, ygR (m_t88 s) (m_r2 s), xB_s, yaIv (i := 183) (j := 183) (x := 0) (m_t90 s) (m_l90 s) rfl (by omega) (by first | rfl | (exact congrFun (m_I s (by omega) (by omega)) _)), kI_o]
  try rw [show wr (0 - 1) = ((-1) : Int) from by first | rfl | decide]
  rw [r_M_lies, e_M_lies]
  by_cases c1 : x < 0
  · rw [if_pos c1, xZ_0, kI_o, xZ_0, kI_o, if_pos (by first | rfl | omega | decide)]
    exact M_fin (by first | rfl | omega | (rw [if_pos (by omega)]; done) | (rw [if_neg (by omega)]; done)) rfl
  · rw [if_neg c1, if_neg (by first | assumption | omega), xZ_0, kI_o, xZ_0, kI_o, if_pos (by first | rfl | omega | decide)]
    exact M_fin (by first | rfl | omega | (rw [if_pos (by omega)]; done) | (rw [if_neg (by omega)]; done)) rfl
theorem pM_sunday (s : StM h I J) (x y : Int) : ∃ I1 J1, rn (d + 8) 166 [iR (some 88), iI x, iI y] (st h I J) = some (oI (-1), st h I1 J1) ∧ I1 0 = I 0 := by
  rw [r_M_sunday, e_M_sunday, yck (m_t88 s), r_M_isTown, e_M_isTown, yck (m_t88 s), r_M_townMany, e_M_townMany, ygR (m_t88 s) (m_r2 s), xB_s, yaIv (i := 183) (j := 183) (x := 0) (m_t90 s) (m_l90 s) rfl (by omega) (by first | rfl | (exact congrFun (m_I s (by omega) (by omega)) _)), kI_o]
  try rw [show wr (0 - 1) = ((-1) : Int) from by first | rfl | decide]
  rw [r_M_lies, e_M_lies]
  by_cases c1 : x < 0
  · rw [if_pos c1, xZ_0, kI_o, xZ_0, kI_o, if_pos (by first | rfl | omega | decide)]
    exact M_fin (by first | rfl | omega | (rw [if_pos (by omega)]; done) | (rw [if_neg (by omega)]; done)) rfl
  · rw [if_neg c1, if_neg (by first | assumption | omega), xZ_0, kI_o, xZ_0, kI_o, if_pos (by first | rfl | omega | decide)]
    exact M_fin (by first | rfl | omega | (rw [if_pos (by omega)]; done) | (rw [if_neg (by omega)]; done)) rfl
theorem pM_road (s : StM h I J) (x y z : Int) : ∃ I1 J1, rn (d + 8) 170 [iR (some 88), iI x, iI y, iI z] (st h I J) = some (oI (if z < 0 ∨ 99 < z ∨ x = y then -1 else -2), st h I1 J1) ∧ I1 0 = I 0 := by
  rw [r_M_road, e_M_road]
  by_cases c1 : x = y
  · rw [if_pos c1, yck (m_t88 s), r_M_refuses, e_M_refuses, ypI (m_t88 s) (by omega), ygR (m_t88 s) (m_r1 s), xB_s]
    try rw [show wr (- (-1)) = (1 : Int) from by first | rfl | decide]
    rw [yaIv (i := 1) (j := 1) (x := 0) (m_t89 s) (m_l89 s) rfl (by omega) (by first | rfl | (simp (disch := omega) only [up_na, up_ni, up_eq, cpy_n]; done) | (simp (disch := omega) only [up_na, up_ni, up_eq, cpy_n]; first | rfl | (exact congrFun (m_I s (by omega) (by omega)) _))), xB_s]
    try rw [show wr (- (-1)) = (1 : Int) from by first | rfl | decide]
    try rw [show wr (0 + 1) = (1 : Int) from by first | rfl | decide]
    rw [zSI (i := 1) (j := 1) (m_t89 s) (by omega) (m_l89 s) rfl (by omega), kI_o]
    exact M_fin (by first | rfl | omega | (rw [if_pos (by omega)]; done) | (rw [if_neg (by omega)]; done)) (by first | rfl | (simp (disch := omega) only [up_na, cpy_n]; done))
  · rw [if_neg c1, r_M_lies, e_M_lies]
    by_cases c2 : z < 0
    · rw [if_pos c2, xZ_0, kI_o, if_pos (by first | rfl | omega | decide), yck (m_t88 s), r_M_refuses, e_M_refuses, ypI (m_t88 s) (by omega), ygR (m_t88 s) (m_r1 s), xB_s]
      try rw [show wr (- (-1)) = (1 : Int) from by first | rfl | decide]
      rw [yaIv (i := 1) (j := 1) (x := 0) (m_t89 s) (m_l89 s) rfl (by omega) (by first | rfl | (simp (disch := omega) only [up_na, up_ni, up_eq, cpy_n]; done) | (simp (disch := omega) only [up_na, up_ni, up_eq, cpy_n]; first | rfl | (exact congrFun (m_I s (by omega) (by omega)) _))), xB_s]
      try rw [show wr (- (-1)) = (1 : Int) from by first | rfl | decide]
      try rw [show wr (0 + 1) = (1 : Int) from by first | rfl | decide]
      rw [zSI (i := 1) (j := 1) (m_t89 s) (by omega) (m_l89 s) rfl (by omega), kI_o]
      exact M_fin (by first | rfl | omega | (rw [if_pos (by omega)]; done) | (rw [if_neg (by omega)]; done)) (by first | rfl | (simp (disch := omega) only [up_na, cpy_n]; done))
    · rw [if_neg c2]
      by_cases c3 : z ≤ 99
      · rw [if_pos c3, xZ_1, kI_o, if_neg (by first | rfl | omega | decide), yck (m_t88 s), r_M_areTwo, e_M_areTwo, yck (m_t88 s), r_M_isTown, e_M_isTown, yck (m_t88 s), r_M_townMany, e_M_townMany, ygR (m_t88 s) (m_r2 s), xB_s, yaIv (i := 183) (j := 183) (x := 0) (m_t90 s) (m_l90 s) rfl (by omega) (by first | rfl | (exact congrFun (m_I s (by omega) (by omega)) _)), kI_o]
        try rw [show wr (0 - 1) = ((-1) : Int) from by first | rfl | decide]
        rw [r_M_lies, e_M_lies]
        by_cases c4 : x < 0
        · rw [if_pos c4, xZ_0, kI_o, xZ_0, kI_o, if_pos (by first | rfl | omega | decide), xZ_0, kI_o, if_pos (by first | rfl | omega | decide), yck (m_t88 s), r_M_refuses, e_M_refuses, ypI (m_t88 s) (by omega), ygR (m_t88 s) (m_r1 s), xB_s]
          try rw [show wr (- (-2)) = (2 : Int) from by first | rfl | decide]
          rw [yaIv (i := 2) (j := 2) (x := 0) (m_t89 s) (m_l89 s) rfl (by omega) (by first | rfl | (simp (disch := omega) only [up_na, up_ni, up_eq, cpy_n]; done) | (simp (disch := omega) only [up_na, up_ni, up_eq, cpy_n]; first | rfl | (exact congrFun (m_I s (by omega) (by omega)) _))), xB_s]
          try rw [show wr (- (-2)) = (2 : Int) from by first | rfl | decide]
          try rw [show wr (0 + 1) = (1 : Int) from by first | rfl | decide]
          rw [zSI (i := 2) (j := 2) (m_t89 s) (by omega) (m_l89 s) rfl (by omega), kI_o]
          exact M_fin (by first | rfl | omega | (rw [if_pos (by omega)]; done) | (rw [if_neg (by omega)]; done)) (by first | rfl | (simp (disch := omega) only [up_na, cpy_n]; done))
        · rw [if_neg c4, if_neg (by first | assumption | omega), xZ_0, kI_o, xZ_0, kI_o, if_pos (by first | rfl | omega | decide), xZ_0, kI_o, if_pos (by first | rfl | omega | decide), yck (m_t88 s), r_M_refuses, e_M_refuses, ypI (m_t88 s) (by omega), ygR (m_t88 s) (m_r1 s), xB_s]
          try rw [show wr (- (-2)) = (2 : Int) from by first | rfl | decide]
          rw [yaIv (i := 2) (j := 2) (x := 0) (m_t89 s) (m_l89 s) rfl (by omega) (by first | rfl | (simp (disch := omega) only [up_na, up_ni, up_eq, cpy_n]; done) | (simp (disch := omega) only [up_na, up_ni, up_eq, cpy_n]; first | rfl | (exact congrFun (m_I s (by omega) (by omega)) _))), xB_s]
          try rw [show wr (- (-2)) = (2 : Int) from by first | rfl | decide]
          try rw [show wr (0 + 1) = (1 : Int) from by first | rfl | decide]
          rw [zSI (i := 2) (j := 2) (m_t89 s) (by omega) (m_l89 s) rfl (by omega), kI_o]
          exact M_fin (by first | rfl | omega | (rw [if_pos (by omega)]; done) | (rw [if_neg (by omega)]; done)) (by first | rfl | (simp (disch := omega) only [up_na, cpy_n]; done))
      · rw [if_neg c3, xZ_0, kI_o, if_pos (by first | rfl | omega | decide), yck (m_t88 s), r_M_refuses, e_M_refuses, ypI (m_t88 s) (by omega), ygR (m_t88 s) (m_r1 s), xB_s]
        try rw [show wr (- (-1)) = (1 : Int) from by first | rfl | decide]
        rw [yaIv (i := 1) (j := 1) (x := 0) (m_t89 s) (m_l89 s) rfl (by omega) (by first | rfl | (simp (disch := omega) only [up_na, up_ni, up_eq, cpy_n]; done) | (simp (disch := omega) only [up_na, up_ni, up_eq, cpy_n]; first | rfl | (exact congrFun (m_I s (by omega) (by omega)) _))), xB_s]
        try rw [show wr (- (-1)) = (1 : Int) from by first | rfl | decide]
        try rw [show wr (0 + 1) = (1 : Int) from by first | rfl | decide]
        rw [zSI (i := 1) (j := 1) (m_t89 s) (by omega) (m_l89 s) rfl (by omega), kI_o]
        exact M_fin (by first | rfl | omega | (rw [if_pos (by omega)]; done) | (rw [if_neg (by omega)]; done)) (by first | rfl | (simp (disch := omega) only [up_na, cpy_n]; done))
theorem pM_between (s : StM h I J) (x y z : Int) : ∃ I1 J1, rn (d + 8) 171 [iR (some 88), iI x, iI y, iI z] (st h I J) = some (oI (-1), st h I1 J1) ∧ I1 0 = I 0 := by
  rw [r_M_between, e_M_between, yck (m_t88 s), r_M_areTwo, e_M_areTwo, yck (m_t88 s), r_M_isTown, e_M_isTown, yck (m_t88 s), r_M_townMany, e_M_townMany, ygR (m_t88 s) (m_r2 s), xB_s, yaIv (i := 183) (j := 183) (x := 0) (m_t90 s) (m_l90 s) rfl (by omega) (by first | rfl | (exact congrFun (m_I s (by omega) (by omega)) _)), kI_o]
  try rw [show wr (0 - 1) = ((-1) : Int) from by first | rfl | decide]
  rw [r_M_lies, e_M_lies]
  by_cases c1 : x < 0
  · rw [if_pos c1, xZ_0, kI_o, xZ_0, kI_o, if_pos (by first | rfl | omega | decide), xZ_0, kI_o, if_pos (by first | rfl | omega | decide)]
    exact M_fin (by first | rfl | omega | (rw [if_pos (by omega)]; done) | (rw [if_neg (by omega)]; done)) rfl
  · rw [if_neg c1, if_neg (by first | assumption | omega), xZ_0, kI_o, xZ_0, kI_o, if_pos (by first | rfl | omega | decide), xZ_0, kI_o, if_pos (by first | rfl | omega | decide)]
    exact M_fin (by first | rfl | omega | (rw [if_pos (by omega)]; done) | (rw [if_neg (by omega)]; done)) rfl
theorem pM_end (s : StM h I J) (x : Int) : ∃ I1 J1, rn (d + 8) 178 [iR (some 88), iI x] (st h I J) = some (oI (if x = 0 then 0 else -1), st h I1 J1) ∧ I1 0 = I 0 := by
  rw [r_M_end, e_M_end, ygIv (x := 0) (m_t88 s) (by first | rfl | (exact congrFun (m_I s (by omega) (by omega)) _)), r_M_lies, e_M_lies]
  by_cases c1 : x < 0
  · rw [if_pos c1, xZ_0, kI_o, if_pos (by first | rfl | omega | decide)]
    exact M_fin (by first | rfl | omega | (rw [if_pos (by omega)]; done) | (rw [if_neg (by omega)]; done)) rfl
  · rw [if_neg c1]
    by_cases c2 : x ≤ 0
    · rw [if_pos c2, xZ_1, kI_o, if_neg (by first | rfl | omega | decide), ypI (m_t88 s) (by omega)]
      exact M_fin (by first | rfl | omega | (rw [if_pos (by omega)]; done) | (rw [if_neg (by omega)]; done)) (by first | rfl | (simp (disch := omega) only [up_na, cpy_n]; done))
    · rw [if_neg c2, xZ_0, kI_o, if_pos (by first | rfl | omega | decide)]
      exact M_fin (by first | rfl | omega | (rw [if_pos (by omega)]; done) | (rw [if_neg (by omega)]; done)) rfl
theorem pM_row (s : StM h I J) : ∃ I1 J1, rn (d + 8) 175 [iR (some 88)] (st h I J) = some (oI (-6), st h I1 J1) ∧ I1 0 = I 0 := by
  rw [r_M_row, e_M_row, ygIv (x := 0) (m_t88 s) (by first | rfl | (exact congrFun (m_I s (by omega) (by omega)) _)), ypI (m_t88 s) (by omega), if_pos (by first | rfl | omega | decide), yck (m_t88 s), r_M_refuses, e_M_refuses, ypI (m_t88 s) (by omega), ygR (m_t88 s) (m_r1 s), xB_s]
  try rw [show wr (- (-6)) = (6 : Int) from by first | rfl | decide]
  rw [yaIv (i := 6) (j := 6) (x := 0) (m_t89 s) (m_l89 s) rfl (by omega) (by first | rfl | (simp (disch := omega) only [up_na, up_ni, up_eq, cpy_n]; done) | (simp (disch := omega) only [up_na, up_ni, up_eq, cpy_n]; first | rfl | (exact congrFun (m_I s (by omega) (by omega)) _))), xB_s]
  try rw [show wr (- (-6)) = (6 : Int) from by first | rfl | decide]
  try rw [show wr (0 + 1) = (1 : Int) from by first | rfl | decide]
  rw [zSI (i := 6) (j := 6) (m_t89 s) (by omega) (m_l89 s) rfl (by omega), kI_o]
  exact M_fin (by first | rfl | omega | (rw [if_pos (by omega)]; done) | (rw [if_neg (by omega)]; done)) (by first | rfl | (simp (disch := omega) only [up_na, cpy_n]; done))
theorem pM_sidings (s : StM h I J) : ∃ I1 J1, rn (d + 8) 176 [iR (some 88)] (st h I J) = some (oI (0), st h I1 J1) ∧ I1 0 = I 0 := by
  rw [r_M_sidings, e_M_sidings, ygIv (x := 0) (m_t88 s) (by first | rfl | (exact congrFun (m_I s (by omega) (by omega)) _))]
  exact M_fin (by first | rfl | omega | (rw [if_pos (by omega)]; done) | (rw [if_neg (by omega)]; done)) rfl
theorem pM_law (s : StM h I J) : ∃ I1 J1, rn (d + 8) 203 [iR (some 88)] (st h I J) = some (oI (-6), st h I1 J1) ∧ I1 0 = I 0 := by
  rw [r_M_law, e_M_law, ygR (m_t88 s) (m_r2 s), xB_s, yaIv (i := 185) (j := 185) (x := 0) (m_t90 s) (m_l90 s) rfl (by omega) (by first | rfl | (exact congrFun (m_I s (by omega) (by omega)) _)), if_neg (by first | rfl | omega | decide), yck (m_t88 s), r_M_readsAs, e_M_readsAs, ypZ (m_t88 s) (by omega) (by first | decide | omega), if_pos (by first | rfl | omega | decide), ypI (m_t88 s) (by omega), if_pos (by first | rfl | omega | decide), ypI (m_t88 s) (by omega), yck (m_t88 s), r_M_reads, e_M_reads, ygIv (x := 0) (m_t88 s) (by first | rfl | (simp (disch := omega) only [up_na, up_ni, up_eq, cpy_n]; done) | (simp (disch := omega) only [up_na, up_ni, up_eq, cpy_n]; first | rfl | (exact congrFun (m_I s (by omega) (by omega)) _))), yck (m_t88 s), r_M_splits, e_M_splits, ypI (m_t88 s) (by omega), e_M_splits_7, if_neg (by first | rfl | omega | decide), ygR (m_t88 s) (m_r17 s), ygIv (x := 0) (m_t88 s) (by first | rfl | (simp (disch := omega) only [up_na, up_ni, up_eq, cpy_n]; done) | (simp (disch := omega) only [up_na, up_ni, up_eq, cpy_n]; first | rfl | (exact congrFun (m_I s (by omega) (by omega)) _))), xB_s, zSI (i := 0) (j := 0) (m_t99 s) (by omega) (m_l99 s) rfl (by omega), ygR (m_t88 s) (m_r15 s), ygIv (x := 0) (m_t88 s) (by first | rfl | (simp (disch := omega) only [up_na, up_ni, up_eq, cpy_n]; done) | (simp (disch := omega) only [up_na, up_ni, up_eq, cpy_n]; first | rfl | (exact congrFun (m_I s (by omega) (by omega)) _))), xB_s, zSI (i := 0) (j := 0) (m_t97 s) (by omega) (m_l97 s) rfl (by omega), e_M_splits_283, ygR (m_t88 s) (m_r16 s), ygIv (x := 0) (m_t88 s) (by first | rfl | (simp (disch := omega) only [up_na, up_ni, up_eq, cpy_n]; done) | (simp (disch := omega) only [up_na, up_ni, up_eq, cpy_n]; first | rfl | (exact congrFun (m_I s (by omega) (by omega)) _))), xB_s, zSI (i := 0) (j := 0) (m_t98 s) (by omega) (m_l98 s) rfl (by omega), kV_o, ypI (m_t88 s) (by omega), ypI (m_t88 s) (by omega), ypI (m_t88 s) (by omega), ypI (m_t88 s) (by omega), yck (m_t88 s), r_M_readOne, e_M_readOne, ygIv (x := 0) (m_t88 s) (by first | rfl | (simp (disch := omega) only [up_na, up_ni, up_eq, cpy_n]; done) | (simp (disch := omega) only [up_na, up_ni, up_eq, cpy_n]; first | rfl | (exact congrFun (m_I s (by omega) (by omega)) _))), if_pos (by first | rfl | omega | decide), yck (m_t88 s), r_M_readClause, e_M_readClause, yck (m_t88 s), r_M_takes0, e_M_takes0, yck (m_t88 s), r_M_fine, e_M_fine, ygIv (x := (-1)) (m_t88 s) (by first | rfl | (simp (disch := omega) only [up_na, up_ni, up_eq, cpy_n]; done) | (simp (disch := omega) only [up_na, up_ni, up_eq, cpy_n]; first | rfl | (exact congrFun (m_I s (by omega) (by omega)) _))), if_pos (by first | rfl | omega | decide), xZ_1, kI_o, if_neg (by first | rfl | omega | decide), ygR (m_t88 s) (m_r15 s), ygIv (x := 0) (m_t88 s) (by first | rfl | (simp (disch := omega) only [up_na, up_ni, up_eq, cpy_n]; done) | (simp (disch := omega) only [up_na, up_ni, up_eq, cpy_n]; first | rfl | (exact congrFun (m_I s (by omega) (by omega)) _))), xB_s, yaIv (i := 0) (j := 0) (x := 0) (m_t97 s) (m_l97 s) rfl (by omega) (by first | rfl | (simp (disch := omega) only [up_na, up_ni, up_eq, cpy_n]; done) | (simp (disch := omega) only [up_na, up_ni, up_eq, cpy_n]; first | rfl | (exact congrFun (m_I s (by omega) (by omega)) _))), if_neg (by first | rfl | omega | decide), if_pos (by first | rfl | omega | decide), xZ_0, kI_o, if_pos (by first | rfl | omega | decide), yck (m_t88 s), r_M_takes0, e_M_takes0, yck (m_t88 s), r_M_fine, e_M_fine, ygIv (x := (-1)) (m_t88 s) (by first | rfl | (simp (disch := omega) only [up_na, up_ni, up_eq, cpy_n]; done) | (simp (disch := omega) only [up_na, up_ni, up_eq, cpy_n]; first | rfl | (exact congrFun (m_I s (by omega) (by omega)) _))), if_pos (by first | rfl | omega | decide), xZ_1, kI_o, if_neg (by first | rfl | omega | decide), ygR (m_t88 s) (m_r15 s), ygIv (x := 0) (m_t88 s) (by first | rfl | (simp (disch := omega) only [up_na, up_ni, up_eq, cpy_n]; done) | (simp (disch := omega) only [up_na, up_ni, up_eq, cpy_n]; first | rfl | (exact congrFun (m_I s (by omega) (by omega)) _))), xB_s, yaIv (i := 0) (j := 0) (x := 0) (m_t97 s) (m_l97 s) rfl (by omega) (by first | rfl | (simp (disch := omega) only [up_na, up_ni, up_eq, cpy_n]; done) | (simp (disch := omega) only [up_na, up_ni, up_eq, cpy_n]; first | rfl | (exact congrFun (m_I s (by omega) (by omega)) _))), if_neg (by first | rfl | omega | decide), if_pos (by first | rfl | omega | decide), xZ_0, kI_o, if_pos (by first | rfl | omega | decide), yck (m_t88 s), r_M_must, e_M_must, yck (m_t88 s), r_M_takes0, e_M_takes0, yck (m_t88 s), r_M_fine, e_M_fine, ygIv (x := (-1)) (m_t88 s) (by first | rfl | (simp (disch := omega) only [up_na, up_ni, up_eq, cpy_n]; done) | (simp (disch := omega) only [up_na, up_ni, up_eq, cpy_n]; first | rfl | (exact congrFun (m_I s (by omega) (by omega)) _))), if_pos (by first | rfl | omega | decide), xZ_1, kI_o, if_neg (by first | rfl | omega | decide), ygR (m_t88 s) (m_r15 s), ygIv (x := 0) (m_t88 s) (by first | rfl | (simp (disch := omega) only [up_na, up_ni, up_eq, cpy_n]; done) | (simp (disch := omega) only [up_na, up_ni, up_eq, cpy_n]; first | rfl | (exact congrFun (m_I s (by omega) (by omega)) _))), xB_s, yaIv (i := 0) (j := 0) (x := 0) (m_t97 s) (m_l97 s) rfl (by omega) (by first | rfl | (simp (disch := omega) only [up_na, up_ni, up_eq, cpy_n]; done) | (simp (disch := omega) only [up_na, up_ni, up_eq, cpy_n]; first | rfl | (exact congrFun (m_I s (by omega) (by omega)) _))), if_neg (by first | rfl | omega | decide), if_pos (by first | rfl | omega | decide), xZ_0, kI_o, if_pos (by first | rfl | omega | decide), yck (m_t88 s), r_M_faults, e_M_faults, yck (m_t88 s), r_M_fine, e_M_fine, ygIv (x := (-1)) (m_t88 s) (by first | rfl | (simp (disch := omega) only [up_na, up_ni, up_eq, cpy_n]; done) | (simp (disch := omega) only [up_na, up_ni, up_eq, cpy_n]; first | rfl | (exact congrFun (m_I s (by omega) (by omega)) _))), if_pos (by first | rfl | omega | decide), xZ_1, kI_o, if_neg (by first | rfl | omega | decide), ygR (m_t88 s) (m_r17 s), ygIv (x := 0) (m_t88 s) (by first | rfl | (simp (disch := omega) only [up_na, up_ni, up_eq, cpy_n]; done) | (simp (disch := omega) only [up_na, up_ni, up_eq, cpy_n]; first | rfl | (exact congrFun (m_I s (by omega) (by omega)) _))), xB_s, yaIv (i := 0) (j := 0) (x := 0) (m_t99 s) (m_l99 s) rfl (by omega) (by first | rfl | (simp (disch := omega) only [up_na, up_ni, up_eq, cpy_n]; done) | (simp (disch := omega) only [up_na, up_ni, up_eq, cpy_n]; first | rfl | (exact congrFun (m_I s (by omega) (by omega)) _))), ypI (m_t88 s) (by omega), kV_o, kV_o, yck (m_t88 s), r_M_takes0, e_M_takes0, yck (m_t88 s), r_M_fine, e_M_fine, ygIv (x := 0) (m_t88 s) (by first | rfl | (simp (disch := omega) only [up_na, up_ni, up_eq, cpy_n]; done) | (simp (disch := omega) only [up_na, up_ni, up_eq, cpy_n]; first | rfl | (exact congrFun (m_I s (by omega) (by omega)) _))), if_neg (by first | rfl | omega | decide), xZ_0, kI_o, if_pos (by first | rfl | omega | decide), if_pos (by first | rfl | omega | decide), xZ_0, kI_o, if_pos (by first | rfl | omega | decide), kV_o, kV_o, e_M_reads_34, r_M_sign, e_M_sign]
  try rw [show wr (100 + 59) = (159 : Int) from by first | rfl | decide]
  rw [kI_o, yck (m_t88 s), r_M_takes0, e_M_takes0, yck (m_t88 s), r_M_fine, e_M_fine, ygIv (x := 0) (m_t88 s) (by first | rfl | (simp (disch := omega) only [up_na, up_ni, up_eq, cpy_n]; done) | (simp (disch := omega) only [up_na, up_ni, up_eq, cpy_n]; first | rfl | (exact congrFun (m_I s (by omega) (by omega)) _))), if_neg (by first | rfl | omega | decide), xZ_0, kI_o, if_pos (by first | rfl | omega | decide), if_pos (by first | rfl | omega | decide), xZ_0, kI_o, if_pos (by first | rfl | omega | decide), yck (m_t88 s), r_M_fine, e_M_fine, ygIv (x := 0) (m_t88 s) (by first | rfl | (simp (disch := omega) only [up_na, up_ni, up_eq, cpy_n]; done) | (simp (disch := omega) only [up_na, up_ni, up_eq, cpy_n]; first | rfl | (exact congrFun (m_I s (by omega) (by omega)) _))), if_neg (by first | rfl | omega | decide), xZ_0, kI_o, if_pos (by first | rfl | omega | decide), ygIv (x := 0) (m_t88 s) (by first | rfl | (simp (disch := omega) only [up_na, up_ni, up_eq, cpy_n]; done) | (simp (disch := omega) only [up_na, up_ni, up_eq, cpy_n]; first | rfl | (exact congrFun (m_I s (by omega) (by omega)) _))), ypI (m_t88 s) (by omega), yck (m_t88 s), r_M_fine, e_M_fine, ygIv (x := 0) (m_t88 s) (by first | rfl | (simp (disch := omega) only [up_na, up_ni, up_eq, cpy_n]; done) | (simp (disch := omega) only [up_na, up_ni, up_eq, cpy_n]; first | rfl | (exact congrFun (m_I s (by omega) (by omega)) _))), if_neg (by first | rfl | omega | decide), xZ_0, kI_o, xZ_0, kI_o, xZ_0, kI_o, if_pos (by first | rfl | omega | decide), yck (m_t88 s), r_M_refuses, e_M_refuses, ypI (m_t88 s) (by omega), ygR (m_t88 s) (m_r1 s), xB_s]
  try rw [show wr (- (-6)) = (6 : Int) from by first | rfl | decide]
  rw [yaIv (i := 6) (j := 6) (x := 0) (m_t89 s) (m_l89 s) rfl (by omega) (by first | rfl | (simp (disch := omega) only [up_na, up_ni, up_eq, cpy_n]; done) | (simp (disch := omega) only [up_na, up_ni, up_eq, cpy_n]; first | rfl | (exact congrFun (m_I s (by omega) (by omega)) _))), xB_s]
  try rw [show wr (- (-6)) = (6 : Int) from by first | rfl | decide]
  try rw [show wr (0 + 1) = (1 : Int) from by first | rfl | decide]
  rw [zSI (i := 6) (j := 6) (m_t89 s) (by omega) (m_l89 s) rfl (by omega), kI_o]
  exact M_fin (by first | rfl | omega | (rw [if_pos (by omega)]; done) | (rw [if_neg (by omega)]; done)) (by first | rfl | (simp (disch := omega) only [up_na, cpy_n]; done))
theorem pM_orders (s : StM h I J) : ∃ I1 J1, rn (d + 8) 279 [iR (some 88)] (st h I J) = some (oI (-6), st h I1 J1) ∧ I1 0 = I 0 := by
  rw [r_M_orders, e_M_orders, ypI (m_t88 s) (by omega), yck (m_t88 s), r_M_readsAs, e_M_readsAs, ypZ (m_t88 s) (by omega) (by first | decide | omega), if_neg (by first | rfl | omega | decide), ypI (m_t88 s) (by omega), if_neg (by first | rfl | omega | decide), ypI (m_t88 s) (by omega), yck (m_t88 s), r_M_reads, e_M_reads, ygIv (x := 0) (m_t88 s) (by first | rfl | (simp (disch := omega) only [up_na, up_ni, up_eq, cpy_n]; done) | (simp (disch := omega) only [up_na, up_ni, up_eq, cpy_n]; first | rfl | (exact congrFun (m_I s (by omega) (by omega)) _))), yck (m_t88 s), r_M_splits, e_M_splits, ypI (m_t88 s) (by omega), e_M_splits_7, if_neg (by first | rfl | omega | decide), ygR (m_t88 s) (m_r17 s), ygIv (x := 0) (m_t88 s) (by first | rfl | (simp (disch := omega) only [up_na, up_ni, up_eq, cpy_n]; done) | (simp (disch := omega) only [up_na, up_ni, up_eq, cpy_n]; first | rfl | (exact congrFun (m_I s (by omega) (by omega)) _))), xB_s, zSI (i := 0) (j := 0) (m_t99 s) (by omega) (m_l99 s) rfl (by omega), ygR (m_t88 s) (m_r15 s), ygIv (x := 0) (m_t88 s) (by first | rfl | (simp (disch := omega) only [up_na, up_ni, up_eq, cpy_n]; done) | (simp (disch := omega) only [up_na, up_ni, up_eq, cpy_n]; first | rfl | (exact congrFun (m_I s (by omega) (by omega)) _))), xB_s, zSI (i := 0) (j := 0) (m_t97 s) (by omega) (m_l97 s) rfl (by omega), e_M_splits_283, ygR (m_t88 s) (m_r16 s), ygIv (x := 0) (m_t88 s) (by first | rfl | (simp (disch := omega) only [up_na, up_ni, up_eq, cpy_n]; done) | (simp (disch := omega) only [up_na, up_ni, up_eq, cpy_n]; first | rfl | (exact congrFun (m_I s (by omega) (by omega)) _))), xB_s, zSI (i := 0) (j := 0) (m_t98 s) (by omega) (m_l98 s) rfl (by omega), kV_o, ypI (m_t88 s) (by omega), ypI (m_t88 s) (by omega), ypI (m_t88 s) (by omega), ypI (m_t88 s) (by omega), yck (m_t88 s), r_M_readOne, e_M_readOne, ygIv (x := 1) (m_t88 s) (by first | rfl | (simp (disch := omega) only [up_na, up_ni, up_eq, cpy_n]; done) | (simp (disch := omega) only [up_na, up_ni, up_eq, cpy_n]; first | rfl | (exact congrFun (m_I s (by omega) (by omega)) _))), if_neg (by first | rfl | omega | decide), yck (m_t88 s), r_M_readOrder, e_M_readOrder, yck (m_t88 s), r_M_takes0, e_M_takes0, yck (m_t88 s), r_M_fine, e_M_fine, ygIv (x := (-1)) (m_t88 s) (by first | rfl | (simp (disch := omega) only [up_na, up_ni, up_eq, cpy_n]; done) | (simp (disch := omega) only [up_na, up_ni, up_eq, cpy_n]; first | rfl | (exact congrFun (m_I s (by omega) (by omega)) _))), if_pos (by first | rfl | omega | decide), xZ_1, kI_o, if_neg (by first | rfl | omega | decide), ygR (m_t88 s) (m_r15 s), ygIv (x := 0) (m_t88 s) (by first | rfl | (simp (disch := omega) only [up_na, up_ni, up_eq, cpy_n]; done) | (simp (disch := omega) only [up_na, up_ni, up_eq, cpy_n]; first | rfl | (exact congrFun (m_I s (by omega) (by omega)) _))), xB_s, yaIv (i := 0) (j := 0) (x := 0) (m_t97 s) (m_l97 s) rfl (by omega) (by first | rfl | (simp (disch := omega) only [up_na, up_ni, up_eq, cpy_n]; done) | (simp (disch := omega) only [up_na, up_ni, up_eq, cpy_n]; first | rfl | (exact congrFun (m_I s (by omega) (by omega)) _))), if_neg (by first | rfl | omega | decide), if_pos (by first | rfl | omega | decide), xZ_0, kI_o, if_pos (by first | rfl | omega | decide), yck (m_t88 s), r_M_takes0, e_M_takes0, yck (m_t88 s), r_M_fine, e_M_fine, ygIv (x := (-1)) (m_t88 s) (by first | rfl | (simp (disch := omega) only [up_na, up_ni, up_eq, cpy_n]; done) | (simp (disch := omega) only [up_na, up_ni, up_eq, cpy_n]; first | rfl | (exact congrFun (m_I s (by omega) (by omega)) _))), if_pos (by first | rfl | omega | decide), xZ_1, kI_o, if_neg (by first | rfl | omega | decide), ygR (m_t88 s) (m_r15 s), ygIv (x := 0) (m_t88 s) (by first | rfl | (simp (disch := omega) only [up_na, up_ni, up_eq, cpy_n]; done) | (simp (disch := omega) only [up_na, up_ni, up_eq, cpy_n]; first | rfl | (exact congrFun (m_I s (by omega) (by omega)) _))), xB_s, yaIv (i := 0) (j := 0) (x := 0) (m_t97 s) (m_l97 s) rfl (by omega) (by first | rfl | (simp (disch := omega) only [up_na, up_ni, up_eq, cpy_n]; done) | (simp (disch := omega) only [up_na, up_ni, up_eq, cpy_n]; first | rfl | (exact congrFun (m_I s (by omega) (by omega)) _))), if_neg (by first | rfl | omega | decide), if_pos (by first | rfl | omega | decide), xZ_0, kI_o, if_pos (by first | rfl | omega | decide), yck (m_t88 s), r_M_takes0, e_M_takes0, yck (m_t88 s), r_M_fine, e_M_fine, ygIv (x := (-1)) (m_t88 s) (by first | rfl | (simp (disch := omega) only [up_na, up_ni, up_eq, cpy_n]; done) | (simp (disch := omega) only [up_na, up_ni, up_eq, cpy_n]; first | rfl | (exact congrFun (m_I s (by omega) (by omega)) _))), if_pos (by first | rfl | omega | decide), xZ_1, kI_o, if_neg (by first | rfl | omega | decide), ygR (m_t88 s) (m_r15 s), ygIv (x := 0) (m_t88 s) (by first | rfl | (simp (disch := omega) only [up_na, up_ni, up_eq, cpy_n]; done) | (simp (disch := omega) only [up_na, up_ni, up_eq, cpy_n]; first | rfl | (exact congrFun (m_I s (by omega) (by omega)) _))), xB_s, yaIv (i := 0) (j := 0) (x := 0) (m_t97 s) (m_l97 s) rfl (by omega) (by first | rfl | (simp (disch := omega) only [up_na, up_ni, up_eq, cpy_n]; done) | (simp (disch := omega) only [up_na, up_ni, up_eq, cpy_n]; first | rfl | (exact congrFun (m_I s (by omega) (by omega)) _))), if_neg (by first | rfl | omega | decide), if_pos (by first | rfl | omega | decide), xZ_0, kI_o, if_pos (by first | rfl | omega | decide), yck (m_t88 s), r_M_must, e_M_must, yck (m_t88 s), r_M_takes0, e_M_takes0, yck (m_t88 s), r_M_fine, e_M_fine, ygIv (x := (-1)) (m_t88 s) (by first | rfl | (simp (disch := omega) only [up_na, up_ni, up_eq, cpy_n]; done) | (simp (disch := omega) only [up_na, up_ni, up_eq, cpy_n]; first | rfl | (exact congrFun (m_I s (by omega) (by omega)) _))), if_pos (by first | rfl | omega | decide), xZ_1, kI_o, if_neg (by first | rfl | omega | decide), ygR (m_t88 s) (m_r15 s), ygIv (x := 0) (m_t88 s) (by first | rfl | (simp (disch := omega) only [up_na, up_ni, up_eq, cpy_n]; done) | (simp (disch := omega) only [up_na, up_ni, up_eq, cpy_n]; first | rfl | (exact congrFun (m_I s (by omega) (by omega)) _))), xB_s, yaIv (i := 0) (j := 0) (x := 0) (m_t97 s) (m_l97 s) rfl (by omega) (by first | rfl | (simp (disch := omega) only [up_na, up_ni, up_eq, cpy_n]; done) | (simp (disch := omega) only [up_na, up_ni, up_eq, cpy_n]; first | rfl | (exact congrFun (m_I s (by omega) (by omega)) _))), if_neg (by first | rfl | omega | decide), if_pos (by first | rfl | omega | decide), xZ_0, kI_o, if_pos (by first | rfl | omega | decide), yck (m_t88 s), r_M_faults, e_M_faults, yck (m_t88 s), r_M_fine, e_M_fine, ygIv (x := (-1)) (m_t88 s) (by first | rfl | (simp (disch := omega) only [up_na, up_ni, up_eq, cpy_n]; done) | (simp (disch := omega) only [up_na, up_ni, up_eq, cpy_n]; first | rfl | (exact congrFun (m_I s (by omega) (by omega)) _))), if_pos (by first | rfl | omega | decide), xZ_1, kI_o, if_neg (by first | rfl | omega | decide), ygR (m_t88 s) (m_r17 s), ygIv (x := 0) (m_t88 s) (by first | rfl | (simp (disch := omega) only [up_na, up_ni, up_eq, cpy_n]; done) | (simp (disch := omega) only [up_na, up_ni, up_eq, cpy_n]; first | rfl | (exact congrFun (m_I s (by omega) (by omega)) _))), xB_s, yaIv (i := 0) (j := 0) (x := 0) (m_t99 s) (m_l99 s) rfl (by omega) (by first | rfl | (simp (disch := omega) only [up_na, up_ni, up_eq, cpy_n]; done) | (simp (disch := omega) only [up_na, up_ni, up_eq, cpy_n]; first | rfl | (exact congrFun (m_I s (by omega) (by omega)) _))), ypI (m_t88 s) (by omega), kV_o, kV_o, e_M_readOrder_81, yck (m_t88 s), r_M_takes0, e_M_takes0, yck (m_t88 s), r_M_fine, e_M_fine, ygIv (x := 0) (m_t88 s) (by first | rfl | (simp (disch := omega) only [up_na, up_ni, up_eq, cpy_n]; done) | (simp (disch := omega) only [up_na, up_ni, up_eq, cpy_n]; first | rfl | (exact congrFun (m_I s (by omega) (by omega)) _))), if_neg (by first | rfl | omega | decide), xZ_0, kI_o, if_pos (by first | rfl | omega | decide), if_pos (by first | rfl | omega | decide), xZ_0, kI_o, if_pos (by first | rfl | omega | decide), yck (m_t88 s), r_M_takes0, e_M_takes0, yck (m_t88 s), r_M_fine, e_M_fine, ygIv (x := 0) (m_t88 s) (by first | rfl | (simp (disch := omega) only [up_na, up_ni, up_eq, cpy_n]; done) | (simp (disch := omega) only [up_na, up_ni, up_eq, cpy_n]; first | rfl | (exact congrFun (m_I s (by omega) (by omega)) _))), if_neg (by first | rfl | omega | decide), xZ_0, kI_o, if_pos (by first | rfl | omega | decide), if_pos (by first | rfl | omega | decide), xZ_0, kI_o, if_pos (by first | rfl | omega | decide), kV_o, kV_o, e_M_reads_34, r_M_sign, e_M_sign]
  try rw [show wr (100 + 59) = (159 : Int) from by first | rfl | decide]
  rw [kI_o, yck (m_t88 s), r_M_takes0, e_M_takes0, yck (m_t88 s), r_M_fine, e_M_fine, ygIv (x := 0) (m_t88 s) (by first | rfl | (simp (disch := omega) only [up_na, up_ni, up_eq, cpy_n]; done) | (simp (disch := omega) only [up_na, up_ni, up_eq, cpy_n]; first | rfl | (exact congrFun (m_I s (by omega) (by omega)) _))), if_neg (by first | rfl | omega | decide), xZ_0, kI_o, if_pos (by first | rfl | omega | decide), if_pos (by first | rfl | omega | decide), xZ_0, kI_o, if_pos (by first | rfl | omega | decide), yck (m_t88 s), r_M_fine, e_M_fine, ygIv (x := 0) (m_t88 s) (by first | rfl | (simp (disch := omega) only [up_na, up_ni, up_eq, cpy_n]; done) | (simp (disch := omega) only [up_na, up_ni, up_eq, cpy_n]; first | rfl | (exact congrFun (m_I s (by omega) (by omega)) _))), if_neg (by first | rfl | omega | decide), xZ_0, kI_o, if_pos (by first | rfl | omega | decide), ygIv (x := 0) (m_t88 s) (by first | rfl | (simp (disch := omega) only [up_na, up_ni, up_eq, cpy_n]; done) | (simp (disch := omega) only [up_na, up_ni, up_eq, cpy_n]; first | rfl | (exact congrFun (m_I s (by omega) (by omega)) _))), ypI (m_t88 s) (by omega), yck (m_t88 s), r_M_fine, e_M_fine, ygIv (x := 0) (m_t88 s) (by first | rfl | (simp (disch := omega) only [up_na, up_ni, up_eq, cpy_n]; done) | (simp (disch := omega) only [up_na, up_ni, up_eq, cpy_n]; first | rfl | (exact congrFun (m_I s (by omega) (by omega)) _))), if_neg (by first | rfl | omega | decide), xZ_0, kI_o, xZ_0, kI_o, xZ_0, kI_o, if_pos (by first | rfl | omega | decide), yck (m_t88 s), r_M_refuses, e_M_refuses, ypI (m_t88 s) (by omega), ygR (m_t88 s) (m_r1 s), xB_s]
  try rw [show wr (- (-6)) = (6 : Int) from by first | rfl | decide]
  rw [yaIv (i := 6) (j := 6) (x := 0) (m_t89 s) (m_l89 s) rfl (by omega) (by first | rfl | (simp (disch := omega) only [up_na, up_ni, up_eq, cpy_n]; done) | (simp (disch := omega) only [up_na, up_ni, up_eq, cpy_n]; first | rfl | (exact congrFun (m_I s (by omega) (by omega)) _))), xB_s]
  try rw [show wr (- (-6)) = (6 : Int) from by first | rfl | decide]
  try rw [show wr (0 + 1) = (1 : Int) from by first | rfl | decide]
  rw [zSI (i := 6) (j := 6) (m_t89 s) (by omega) (m_l89 s) rfl (by omega), kI_o]
  exact M_fin (by first | rfl | omega | (rw [if_pos (by omega)]; done) | (rw [if_neg (by omega)]; done)) (by first | rfl | (simp (disch := omega) only [up_na, cpy_n]; done))
theorem pM_fault (s : StM h I J) : ∃ I1 J1, rn (d + 8) 204 [iR (some 88)] (st h I J) = some (oI (-1), st h I1 J1) ∧ I1 0 = I 0 := by
  rw [r_M_fault, e_M_fault, ygIv (x := (-1)) (m_t88 s) (by first | rfl | (exact congrFun (m_I s (by omega) (by omega)) _))]
  exact M_fin (by first | rfl | omega | (rw [if_pos (by omega)]; done) | (rw [if_neg (by omega)]; done)) rfl
theorem pM_stopped (s : StM h I J) : ∃ I1 J1, rn (d + 8) 278 [iR (some 88)] (st h I J) = some (oI (-1), st h I1 J1) ∧ I1 0 = I 0 := by
  rw [r_M_stopped, e_M_stopped, ygIv (x := (-1)) (m_t88 s) (by first | rfl | (exact congrFun (m_I s (by omega) (by omega)) _))]
  exact M_fin (by first | rfl | omega | (rw [if_pos (by omega)]; done) | (rw [if_neg (by omega)]; done)) rfl
theorem pM_force (s : StM h I J) (x : Int) : ∃ I1 J1, rn (d + 8) 206 [iR (some 88), iI x] (st h I J) = some (oI (if x = -1 then -1 else -2), st h I1 J1) ∧ I1 0 = I 0 := by
  rw [r_M_force, e_M_force, yck (m_t88 s), r_M_isLaw, e_M_isLaw, ygR (m_t88 s) (m_r2 s), xB_s, yaIv (i := 185) (j := 185) (x := 0) (m_t90 s) (m_l90 s) rfl (by omega) (by first | rfl | (exact congrFun (m_I s (by omega) (by omega)) _))]
  try rw [show wr (0 - 1) = ((-1) : Int) from by first | rfl | decide]
  rw [r_M_lies, e_M_lies]
  by_cases c1 : x < (-1)
  · rw [if_pos c1, xZ_0, kI_o, xZ_0, kI_o, if_pos (by first | rfl | omega | decide), yck (m_t88 s), r_M_refuses, e_M_refuses, ypI (m_t88 s) (by omega), ygR (m_t88 s) (m_r1 s), xB_s]
    try rw [show wr (- (-2)) = (2 : Int) from by first | rfl | decide]
    rw [yaIv (i := 2) (j := 2) (x := 0) (m_t89 s) (m_l89 s) rfl (by omega) (by first | rfl | (simp (disch := omega) only [up_na, up_ni, up_eq, cpy_n]; done) | (simp (disch := omega) only [up_na, up_ni, up_eq, cpy_n]; first | rfl | (exact congrFun (m_I s (by omega) (by omega)) _))), xB_s]
    try rw [show wr (- (-2)) = (2 : Int) from by first | rfl | decide]
    try rw [show wr (0 + 1) = (1 : Int) from by first | rfl | decide]
    rw [zSI (i := 2) (j := 2) (m_t89 s) (by omega) (m_l89 s) rfl (by omega), kI_o]
    exact M_fin (by first | rfl | omega | (rw [if_pos (by omega)]; done) | (rw [if_neg (by omega)]; done)) (by first | rfl | (simp (disch := omega) only [up_na, cpy_n]; done))
  · rw [if_neg c1]
    by_cases c2 : x ≤ (-1)
    · rw [if_pos c2, xZ_1, kI_o, xZ_1, kI_o, if_neg (by first | rfl | omega | decide), ygR (m_t88 s) (m_r2 s), xB_s, yaIv (i := 186) (j := 186) (x := (-1)) (m_t90 s) (m_l90 s) rfl (by omega) (by first | rfl | (exact congrFun (m_I s (by omega) (by omega)) _)), ygR (m_t88 s) (m_r2 s), xB_s, zSI (i := 186) (j := 186) (m_t90 s) (by omega) (m_l90 s) rfl (by omega), yck (m_t88 s), r_M_good, e_M_good, ypI (m_t88 s) (by omega), kI_o]
      exact M_fin (by first | rfl | omega | (rw [if_pos (by omega)]; done) | (rw [if_neg (by omega)]; done)) (by first | rfl | (simp (disch := omega) only [up_na, cpy_n]; done))
    · rw [if_neg c2, xZ_0, kI_o, xZ_0, kI_o, if_pos (by first | rfl | omega | decide), yck (m_t88 s), r_M_refuses, e_M_refuses, ypI (m_t88 s) (by omega), ygR (m_t88 s) (m_r1 s), xB_s]
      try rw [show wr (- (-2)) = (2 : Int) from by first | rfl | decide]
      rw [yaIv (i := 2) (j := 2) (x := 0) (m_t89 s) (m_l89 s) rfl (by omega) (by first | rfl | (simp (disch := omega) only [up_na, up_ni, up_eq, cpy_n]; done) | (simp (disch := omega) only [up_na, up_ni, up_eq, cpy_n]; first | rfl | (exact congrFun (m_I s (by omega) (by omega)) _))), xB_s]
      try rw [show wr (- (-2)) = (2 : Int) from by first | rfl | decide]
      try rw [show wr (0 + 1) = (1 : Int) from by first | rfl | decide]
      rw [zSI (i := 2) (j := 2) (m_t89 s) (by omega) (m_l89 s) rfl (by omega), kI_o]
      exact M_fin (by first | rfl | omega | (rw [if_pos (by omega)]; done) | (rw [if_neg (by omega)]; done)) (by first | rfl | (simp (disch := omega) only [up_na, cpy_n]; done))
theorem pM_swap (s : StM h I J) (x y : Int) : ∃ I1 J1, rn (d + 8) 240 [iR (some 88), iI x, iI y] (st h I J) = some (oI (if x = y then -1 else -2), st h I1 J1) ∧ I1 0 = I 0 := by
  rw [r_M_swap, e_M_swap, yck (m_t88 s), r_M_swapsKept, e_M_swapsKept]
  by_cases c1 : x = y
  · rw [if_pos c1, kI_o, yck (m_t88 s), r_M_goodOr, e_M_goodOr, if_pos (by first | rfl | omega | decide), yck (m_t88 s), r_M_refuses, e_M_refuses, ypI (m_t88 s) (by omega), ygR (m_t88 s) (m_r1 s), xB_s]
    try rw [show wr (- (-1)) = (1 : Int) from by first | rfl | decide]
    rw [yaIv (i := 1) (j := 1) (x := 0) (m_t89 s) (m_l89 s) rfl (by omega) (by first | rfl | (simp (disch := omega) only [up_na, up_ni, up_eq, cpy_n]; done) | (simp (disch := omega) only [up_na, up_ni, up_eq, cpy_n]; first | rfl | (exact congrFun (m_I s (by omega) (by omega)) _))), xB_s]
    try rw [show wr (- (-1)) = (1 : Int) from by first | rfl | decide]
    try rw [show wr (0 + 1) = (1 : Int) from by first | rfl | decide]
    rw [zSI (i := 1) (j := 1) (m_t89 s) (by omega) (m_l89 s) rfl (by omega), kI_o, kI_o]
    exact M_fin (by first | rfl | omega | (rw [if_pos (by omega)]; done) | (rw [if_neg (by omega)]; done)) (by first | rfl | (simp (disch := omega) only [up_na, cpy_n]; done))
  · rw [if_neg c1, yck (m_t88 s), r_M_areTwo, e_M_areTwo, yck (m_t88 s), r_M_isTown, e_M_isTown, yck (m_t88 s), r_M_townMany, e_M_townMany, ygR (m_t88 s) (m_r2 s), xB_s, yaIv (i := 183) (j := 183) (x := 0) (m_t90 s) (m_l90 s) rfl (by omega) (by first | rfl | (exact congrFun (m_I s (by omega) (by omega)) _)), kI_o]
    try rw [show wr (0 - 1) = ((-1) : Int) from by first | rfl | decide]
    rw [r_M_lies, e_M_lies]
    by_cases c2 : x < 0
    · rw [if_pos c2, xZ_0, kI_o, xZ_0, kI_o, if_pos (by first | rfl | omega | decide), xZ_0, kI_o, if_pos (by first | rfl | omega | decide), kI_o, yck (m_t88 s), r_M_goodOr, e_M_goodOr, if_pos (by first | rfl | omega | decide), yck (m_t88 s), r_M_refuses, e_M_refuses, ypI (m_t88 s) (by omega), ygR (m_t88 s) (m_r1 s), xB_s]
      try rw [show wr (- (-2)) = (2 : Int) from by first | rfl | decide]
      rw [yaIv (i := 2) (j := 2) (x := 0) (m_t89 s) (m_l89 s) rfl (by omega) (by first | rfl | (simp (disch := omega) only [up_na, up_ni, up_eq, cpy_n]; done) | (simp (disch := omega) only [up_na, up_ni, up_eq, cpy_n]; first | rfl | (exact congrFun (m_I s (by omega) (by omega)) _))), xB_s]
      try rw [show wr (- (-2)) = (2 : Int) from by first | rfl | decide]
      try rw [show wr (0 + 1) = (1 : Int) from by first | rfl | decide]
      rw [zSI (i := 2) (j := 2) (m_t89 s) (by omega) (m_l89 s) rfl (by omega), kI_o, kI_o]
      exact M_fin (by first | rfl | omega | (rw [if_pos (by omega)]; done) | (rw [if_neg (by omega)]; done)) (by first | rfl | (simp (disch := omega) only [up_na, cpy_n]; done))
    · rw [if_neg c2, if_neg (by first | assumption | omega), xZ_0, kI_o, xZ_0, kI_o, if_pos (by first | rfl | omega | decide), xZ_0, kI_o, if_pos (by first | rfl | omega | decide), kI_o, yck (m_t88 s), r_M_goodOr, e_M_goodOr, if_pos (by first | rfl | omega | decide), yck (m_t88 s), r_M_refuses, e_M_refuses, ypI (m_t88 s) (by omega), ygR (m_t88 s) (m_r1 s), xB_s]
      try rw [show wr (- (-2)) = (2 : Int) from by first | rfl | decide]
      rw [yaIv (i := 2) (j := 2) (x := 0) (m_t89 s) (m_l89 s) rfl (by omega) (by first | rfl | (simp (disch := omega) only [up_na, up_ni, up_eq, cpy_n]; done) | (simp (disch := omega) only [up_na, up_ni, up_eq, cpy_n]; first | rfl | (exact congrFun (m_I s (by omega) (by omega)) _))), xB_s]
      try rw [show wr (- (-2)) = (2 : Int) from by first | rfl | decide]
      try rw [show wr (0 + 1) = (1 : Int) from by first | rfl | decide]
      rw [zSI (i := 2) (j := 2) (m_t89 s) (by omega) (m_l89 s) rfl (by omega), kI_o, kI_o]
      exact M_fin (by first | rfl | omega | (rw [if_pos (by omega)]; done) | (rw [if_neg (by omega)]; done)) (by first | rfl | (simp (disch := omega) only [up_na, cpy_n]; done))
theorem pM_round (s : StM h I J) (x y z : Int) : ∃ I1 J1, rn (d + 8) 241 [iR (some 88), iI x, iI y, iI z] (st h I J) = some (oI (if x = y ∨ y = z ∨ x = z then -1 else -2), st h I1 J1) ∧ I1 0 = I 0 := by
  rw [r_M_round, e_M_round, yck (m_t88 s), r_M_roundsKept, e_M_roundsKept]
  by_cases c1 : x = y
  · rw [if_pos c1, kI_o, yck (m_t88 s), r_M_goodOr, e_M_goodOr, if_pos (by first | rfl | omega | decide), yck (m_t88 s), r_M_refuses, e_M_refuses, ypI (m_t88 s) (by omega), ygR (m_t88 s) (m_r1 s), xB_s]
    try rw [show wr (- (-1)) = (1 : Int) from by first | rfl | decide]
    rw [yaIv (i := 1) (j := 1) (x := 0) (m_t89 s) (m_l89 s) rfl (by omega) (by first | rfl | (simp (disch := omega) only [up_na, up_ni, up_eq, cpy_n]; done) | (simp (disch := omega) only [up_na, up_ni, up_eq, cpy_n]; first | rfl | (exact congrFun (m_I s (by omega) (by omega)) _))), xB_s]
    try rw [show wr (- (-1)) = (1 : Int) from by first | rfl | decide]
    try rw [show wr (0 + 1) = (1 : Int) from by first | rfl | decide]
    rw [zSI (i := 1) (j := 1) (m_t89 s) (by omega) (m_l89 s) rfl (by omega), kI_o, kI_o]
    exact M_fin (by first | rfl | omega | (rw [if_pos (by omega)]; done) | (rw [if_neg (by omega)]; done)) (by first | rfl | (simp (disch := omega) only [up_na, cpy_n]; done))
  · rw [if_neg c1]
    by_cases c2 : y = z
    · rw [if_pos c2, kI_o, yck (m_t88 s), r_M_goodOr, e_M_goodOr, if_pos (by first | rfl | omega | decide), yck (m_t88 s), r_M_refuses, e_M_refuses, ypI (m_t88 s) (by omega), ygR (m_t88 s) (m_r1 s), xB_s]
      try rw [show wr (- (-1)) = (1 : Int) from by first | rfl | decide]
      rw [yaIv (i := 1) (j := 1) (x := 0) (m_t89 s) (m_l89 s) rfl (by omega) (by first | rfl | (simp (disch := omega) only [up_na, up_ni, up_eq, cpy_n]; done) | (simp (disch := omega) only [up_na, up_ni, up_eq, cpy_n]; first | rfl | (exact congrFun (m_I s (by omega) (by omega)) _))), xB_s]
      try rw [show wr (- (-1)) = (1 : Int) from by first | rfl | decide]
      try rw [show wr (0 + 1) = (1 : Int) from by first | rfl | decide]
      rw [zSI (i := 1) (j := 1) (m_t89 s) (by omega) (m_l89 s) rfl (by omega), kI_o, kI_o]
      exact M_fin (by first | rfl | omega | (rw [if_pos (by omega)]; done) | (rw [if_neg (by omega)]; done)) (by first | rfl | (simp (disch := omega) only [up_na, cpy_n]; done))
    · rw [if_neg c2]
      by_cases c3 : x = z
      · rw [if_pos c3, kI_o, yck (m_t88 s), r_M_goodOr, e_M_goodOr, if_pos (by first | rfl | omega | decide), yck (m_t88 s), r_M_refuses, e_M_refuses, ypI (m_t88 s) (by omega), ygR (m_t88 s) (m_r1 s), xB_s]
        try rw [show wr (- (-1)) = (1 : Int) from by first | rfl | decide]
        rw [yaIv (i := 1) (j := 1) (x := 0) (m_t89 s) (m_l89 s) rfl (by omega) (by first | rfl | (simp (disch := omega) only [up_na, up_ni, up_eq, cpy_n]; done) | (simp (disch := omega) only [up_na, up_ni, up_eq, cpy_n]; first | rfl | (exact congrFun (m_I s (by omega) (by omega)) _))), xB_s]
        try rw [show wr (- (-1)) = (1 : Int) from by first | rfl | decide]
        try rw [show wr (0 + 1) = (1 : Int) from by first | rfl | decide]
        rw [zSI (i := 1) (j := 1) (m_t89 s) (by omega) (m_l89 s) rfl (by omega), kI_o, kI_o]
        exact M_fin (by first | rfl | omega | (rw [if_pos (by omega)]; done) | (rw [if_neg (by omega)]; done)) (by first | rfl | (simp (disch := omega) only [up_na, cpy_n]; done))
      · rw [if_neg c3, yck (m_t88 s), r_M_areTwo, e_M_areTwo, yck (m_t88 s), r_M_isTown, e_M_isTown, yck (m_t88 s), r_M_townMany, e_M_townMany, ygR (m_t88 s) (m_r2 s), xB_s, yaIv (i := 183) (j := 183) (x := 0) (m_t90 s) (m_l90 s) rfl (by omega) (by first | rfl | (exact congrFun (m_I s (by omega) (by omega)) _)), kI_o]
        try rw [show wr (0 - 1) = ((-1) : Int) from by first | rfl | decide]
        rw [r_M_lies, e_M_lies]
        by_cases c4 : x < 0
        · rw [if_pos c4, xZ_0, kI_o, xZ_0, kI_o, if_pos (by first | rfl | omega | decide), xZ_0, kI_o, if_pos (by first | rfl | omega | decide), kI_o, yck (m_t88 s), r_M_goodOr, e_M_goodOr, if_pos (by first | rfl | omega | decide), yck (m_t88 s), r_M_refuses, e_M_refuses, ypI (m_t88 s) (by omega), ygR (m_t88 s) (m_r1 s), xB_s]
          try rw [show wr (- (-2)) = (2 : Int) from by first | rfl | decide]
          rw [yaIv (i := 2) (j := 2) (x := 0) (m_t89 s) (m_l89 s) rfl (by omega) (by first | rfl | (simp (disch := omega) only [up_na, up_ni, up_eq, cpy_n]; done) | (simp (disch := omega) only [up_na, up_ni, up_eq, cpy_n]; first | rfl | (exact congrFun (m_I s (by omega) (by omega)) _))), xB_s]
          try rw [show wr (- (-2)) = (2 : Int) from by first | rfl | decide]
          try rw [show wr (0 + 1) = (1 : Int) from by first | rfl | decide]
          rw [zSI (i := 2) (j := 2) (m_t89 s) (by omega) (m_l89 s) rfl (by omega), kI_o, kI_o]
          exact M_fin (by first | rfl | omega | (rw [if_pos (by omega)]; done) | (rw [if_neg (by omega)]; done)) (by first | rfl | (simp (disch := omega) only [up_na, cpy_n]; done))
        · rw [if_neg c4, if_neg (by first | assumption | omega), xZ_0, kI_o, xZ_0, kI_o, if_pos (by first | rfl | omega | decide), xZ_0, kI_o, if_pos (by first | rfl | omega | decide), kI_o, yck (m_t88 s), r_M_goodOr, e_M_goodOr, if_pos (by first | rfl | omega | decide), yck (m_t88 s), r_M_refuses, e_M_refuses, ypI (m_t88 s) (by omega), ygR (m_t88 s) (m_r1 s), xB_s]
          try rw [show wr (- (-2)) = (2 : Int) from by first | rfl | decide]
          rw [yaIv (i := 2) (j := 2) (x := 0) (m_t89 s) (m_l89 s) rfl (by omega) (by first | rfl | (simp (disch := omega) only [up_na, up_ni, up_eq, cpy_n]; done) | (simp (disch := omega) only [up_na, up_ni, up_eq, cpy_n]; first | rfl | (exact congrFun (m_I s (by omega) (by omega)) _))), xB_s]
          try rw [show wr (- (-2)) = (2 : Int) from by first | rfl | decide]
          try rw [show wr (0 + 1) = (1 : Int) from by first | rfl | decide]
          rw [zSI (i := 2) (j := 2) (m_t89 s) (by omega) (m_l89 s) rfl (by omega), kI_o, kI_o]
          exact M_fin (by first | rfl | omega | (rw [if_pos (by omega)]; done) | (rw [if_neg (by omega)]; done)) (by first | rfl | (simp (disch := omega) only [up_na, cpy_n]; done))
theorem pM_close (s : StM h I J) (x y : Int) : ∃ I1 J1, rn (d + 8) 242 [iR (some 88), iI x, iI y] (st h I J) = some (oI (if x = y then -1 else -2), st h I1 J1) ∧ I1 0 = I 0 := by
  rw [r_M_close, e_M_close, yck (m_t88 s), r_M_closesKept, e_M_closesKept]
  by_cases c1 : x = y
  · rw [if_pos c1, kI_o, yck (m_t88 s), r_M_goodOr, e_M_goodOr, if_pos (by first | rfl | omega | decide), yck (m_t88 s), r_M_refuses, e_M_refuses, ypI (m_t88 s) (by omega), ygR (m_t88 s) (m_r1 s), xB_s]
    try rw [show wr (- (-1)) = (1 : Int) from by first | rfl | decide]
    rw [yaIv (i := 1) (j := 1) (x := 0) (m_t89 s) (m_l89 s) rfl (by omega) (by first | rfl | (simp (disch := omega) only [up_na, up_ni, up_eq, cpy_n]; done) | (simp (disch := omega) only [up_na, up_ni, up_eq, cpy_n]; first | rfl | (exact congrFun (m_I s (by omega) (by omega)) _))), xB_s]
    try rw [show wr (- (-1)) = (1 : Int) from by first | rfl | decide]
    try rw [show wr (0 + 1) = (1 : Int) from by first | rfl | decide]
    rw [zSI (i := 1) (j := 1) (m_t89 s) (by omega) (m_l89 s) rfl (by omega), kI_o, kI_o]
    exact M_fin (by first | rfl | omega | (rw [if_pos (by omega)]; done) | (rw [if_neg (by omega)]; done)) (by first | rfl | (simp (disch := omega) only [up_na, cpy_n]; done))
  · rw [if_neg c1, yck (m_t88 s), r_M_areTwo, e_M_areTwo, yck (m_t88 s), r_M_isTown, e_M_isTown, yck (m_t88 s), r_M_townMany, e_M_townMany, ygR (m_t88 s) (m_r2 s), xB_s, yaIv (i := 183) (j := 183) (x := 0) (m_t90 s) (m_l90 s) rfl (by omega) (by first | rfl | (exact congrFun (m_I s (by omega) (by omega)) _)), kI_o]
    try rw [show wr (0 - 1) = ((-1) : Int) from by first | rfl | decide]
    rw [r_M_lies, e_M_lies]
    by_cases c2 : x < 0
    · rw [if_pos c2, xZ_0, kI_o, xZ_0, kI_o, if_pos (by first | rfl | omega | decide), xZ_0, kI_o, if_pos (by first | rfl | omega | decide), kI_o, yck (m_t88 s), r_M_goodOr, e_M_goodOr, if_pos (by first | rfl | omega | decide), yck (m_t88 s), r_M_refuses, e_M_refuses, ypI (m_t88 s) (by omega), ygR (m_t88 s) (m_r1 s), xB_s]
      try rw [show wr (- (-2)) = (2 : Int) from by first | rfl | decide]
      rw [yaIv (i := 2) (j := 2) (x := 0) (m_t89 s) (m_l89 s) rfl (by omega) (by first | rfl | (simp (disch := omega) only [up_na, up_ni, up_eq, cpy_n]; done) | (simp (disch := omega) only [up_na, up_ni, up_eq, cpy_n]; first | rfl | (exact congrFun (m_I s (by omega) (by omega)) _))), xB_s]
      try rw [show wr (- (-2)) = (2 : Int) from by first | rfl | decide]
      try rw [show wr (0 + 1) = (1 : Int) from by first | rfl | decide]
      rw [zSI (i := 2) (j := 2) (m_t89 s) (by omega) (m_l89 s) rfl (by omega), kI_o, kI_o]
      exact M_fin (by first | rfl | omega | (rw [if_pos (by omega)]; done) | (rw [if_neg (by omega)]; done)) (by first | rfl | (simp (disch := omega) only [up_na, cpy_n]; done))
    · rw [if_neg c2, if_neg (by first | assumption | omega), xZ_0, kI_o, xZ_0, kI_o, if_pos (by first | rfl | omega | decide), xZ_0, kI_o, if_pos (by first | rfl | omega | decide), kI_o, yck (m_t88 s), r_M_goodOr, e_M_goodOr, if_pos (by first | rfl | omega | decide), yck (m_t88 s), r_M_refuses, e_M_refuses, ypI (m_t88 s) (by omega), ygR (m_t88 s) (m_r1 s), xB_s]
      try rw [show wr (- (-2)) = (2 : Int) from by first | rfl | decide]
      rw [yaIv (i := 2) (j := 2) (x := 0) (m_t89 s) (m_l89 s) rfl (by omega) (by first | rfl | (simp (disch := omega) only [up_na, up_ni, up_eq, cpy_n]; done) | (simp (disch := omega) only [up_na, up_ni, up_eq, cpy_n]; first | rfl | (exact congrFun (m_I s (by omega) (by omega)) _))), xB_s]
      try rw [show wr (- (-2)) = (2 : Int) from by first | rfl | decide]
      try rw [show wr (0 + 1) = (1 : Int) from by first | rfl | decide]
      rw [zSI (i := 2) (j := 2) (m_t89 s) (by omega) (m_l89 s) rfl (by omega), kI_o, kI_o]
      exact M_fin (by first | rfl | omega | (rw [if_pos (by omega)]; done) | (rw [if_neg (by omega)]; done)) (by first | rfl | (simp (disch := omega) only [up_na, cpy_n]; done))
theorem pM_undo (s : StM h I J) : ∃ I1 J1, rn (d + 8) 228 [iR (some 88)] (st h I J) = some (oI (-3), st h I1 J1) ∧ I1 0 = I 0 := by
  rw [r_M_undo, e_M_undo, ygIv (x := 0) (m_t88 s) (by first | rfl | (exact congrFun (m_I s (by omega) (by omega)) _)), if_pos (by first | rfl | omega | decide), yck (m_t88 s), r_M_refuses, e_M_refuses, ypI (m_t88 s) (by omega), ygR (m_t88 s) (m_r1 s), xB_s]
  try rw [show wr (- (-3)) = (3 : Int) from by first | rfl | decide]
  rw [yaIv (i := 3) (j := 3) (x := 0) (m_t89 s) (m_l89 s) rfl (by omega) (by first | rfl | (simp (disch := omega) only [up_na, up_ni, up_eq, cpy_n]; done) | (simp (disch := omega) only [up_na, up_ni, up_eq, cpy_n]; first | rfl | (exact congrFun (m_I s (by omega) (by omega)) _))), xB_s]
  try rw [show wr (- (-3)) = (3 : Int) from by first | rfl | decide]
  try rw [show wr (0 + 1) = (1 : Int) from by first | rfl | decide]
  rw [zSI (i := 3) (j := 3) (m_t89 s) (by omega) (m_l89 s) rfl (by omega), kI_o]
  exact M_fin (by first | rfl | omega | (rw [if_pos (by omega)]; done) | (rw [if_neg (by omega)]; done)) (by first | rfl | (simp (disch := omega) only [up_na, cpy_n]; done))
theorem pM_rings (s : StM h I J) (x : Int) : ∃ I1 J1, rn (d + 8) 246 [iR (some 88), iI x] (st h I J) = some (oI (if x = -1 then 0 else -1), st h I1 J1) ∧ I1 0 = I 0 := by
  rw [r_M_rings, e_M_rings]
  by_cases c1 : x = (-1)
  · rw [if_pos c1, e_M_rings_27, yck (m_t88 s), r_M_townMany, e_M_townMany, ygR (m_t88 s) (m_r2 s), xB_s, yaIv (i := 183) (j := 183) (x := 0) (m_t90 s) (m_l90 s) rfl (by omega) (by first | rfl | (exact congrFun (m_I s (by omega) (by omega)) _)), kI_o, if_neg (by first | rfl | omega | decide)]
    exact M_fin (by first | rfl | omega | (rw [if_pos (by omega)]; done) | (rw [if_neg (by omega)]; done)) rfl
  · rw [if_neg c1, yck (m_t88 s), r_M_isTown, e_M_isTown, yck (m_t88 s), r_M_townMany, e_M_townMany, ygR (m_t88 s) (m_r2 s), xB_s, yaIv (i := 183) (j := 183) (x := 0) (m_t90 s) (m_l90 s) rfl (by omega) (by first | rfl | (exact congrFun (m_I s (by omega) (by omega)) _)), kI_o]
    try rw [show wr (0 - 1) = ((-1) : Int) from by first | rfl | decide]
    rw [r_M_lies, e_M_lies]
    by_cases c2 : x < 0
    · rw [if_pos c2, xZ_0, kI_o, xZ_0, kI_o, if_pos (by first | rfl | omega | decide)]
      exact M_fin (by first | rfl | omega | (rw [if_pos (by omega)]; done) | (rw [if_neg (by omega)]; done)) rfl
    · rw [if_neg c2, if_neg (by first | assumption | omega), xZ_0, kI_o, xZ_0, kI_o, if_pos (by first | rfl | omega | decide)]
      exact M_fin (by first | rfl | omega | (rw [if_pos (by omega)]; done) | (rw [if_neg (by omega)]; done)) rfl
theorem pM_repeated (s : StM h I J) : ∃ I1 J1, rn (d + 8) 248 [iR (some 88)] (st h I J) = some (oI (1), st h I1 J1) ∧ I1 0 = I 0 := by
  rw [r_M_repeated, e_M_repeated, e_M_repeated_4, yck (m_t88 s), r_M_townMany, e_M_townMany, ygR (m_t88 s) (m_r2 s), xB_s, yaIv (i := 183) (j := 183) (x := 0) (m_t90 s) (m_l90 s) rfl (by omega) (by first | rfl | (exact congrFun (m_I s (by omega) (by omega)) _)), kI_o, if_neg (by first | rfl | omega | decide)]
  exact M_fin (by first | rfl | omega | (rw [if_pos (by omega)]; done) | (rw [if_neg (by omega)]; done)) rfl
theorem pM_mostLiked (s : StM h I J) (x : Int) : ∃ I1 J1, rn (d + 8) 253 [iR (some 88), iI x] (st h I J) = some (oI (if x = -1 then 0 else -1), st h I1 J1) ∧ I1 0 = I 0 := by
  rw [r_M_mostLiked, e_M_mostLiked]
  by_cases c1 : x = (-1)
  · rw [if_pos c1, yck (m_t88 s), r_M_laysWorths, e_M_laysWorths, e_M_laysWorths_2, yck (m_t88 s), r_M_townMany, e_M_townMany, ygR (m_t88 s) (m_r2 s), xB_s, yaIv (i := 183) (j := 183) (x := 0) (m_t90 s) (m_l90 s) rfl (by omega) (by first | rfl | (exact congrFun (m_I s (by omega) (by omega)) _)), kI_o, if_neg (by first | rfl | omega | decide), kV_o, yck (m_t88 s), r_M_goesThrough, e_M_goesThrough, ypI (m_t88 s) (by omega), ypI (m_t88 s) (by omega), e_M_goesThrough_16, yck (m_t88 s), r_M_townMany, e_M_townMany, ygR (m_t88 s) (m_r2 s), xB_s, yaIv (i := 183) (j := 183) (x := 0) (m_t90 s) (m_l90 s) rfl (by omega) (by first | rfl | (simp (disch := omega) only [up_na, up_ni, up_eq, cpy_n]; done) | (simp (disch := omega) only [up_na, up_ni, up_eq, cpy_n]; first | rfl | (exact congrFun (m_I s (by omega) (by omega)) _))), kI_o, if_neg (by first | rfl | omega | decide), e_M_goesThrough_37, if_neg (by first | rfl | omega | decide), yck (m_t88 s), r_M_townMany, e_M_townMany, ygR (m_t88 s) (m_r2 s), xB_s, yaIv (i := 183) (j := 183) (x := 0) (m_t90 s) (m_l90 s) rfl (by omega) (by first | rfl | (simp (disch := omega) only [up_na, up_ni, up_eq, cpy_n]; done) | (simp (disch := omega) only [up_na, up_ni, up_eq, cpy_n]; first | rfl | (exact congrFun (m_I s (by omega) (by omega)) _))), kI_o, if_pos (by first | rfl | omega | decide), yck (m_t88 s), r_M_weighsRow, e_M_weighsRow, e_M_weighsRow_4, yck (m_t88 s), r_M_townMany, e_M_townMany, ygR (m_t88 s) (m_r2 s), xB_s, yaIv (i := 183) (j := 183) (x := 0) (m_t90 s) (m_l90 s) rfl (by omega) (by first | rfl | (simp (disch := omega) only [up_na, up_ni, up_eq, cpy_n]; done) | (simp (disch := omega) only [up_na, up_ni, up_eq, cpy_n]; first | rfl | (exact congrFun (m_I s (by omega) (by omega)) _))), kI_o, if_neg (by first | rfl | omega | decide), ygIv (x := 0) (m_t88 s) (by first | rfl | (simp (disch := omega) only [up_na, up_ni, up_eq, cpy_n]; done) | (simp (disch := omega) only [up_na, up_ni, up_eq, cpy_n]; first | rfl | (exact congrFun (m_I s (by omega) (by omega)) _)))]
    try rw [show wr (0 + 1) = (1 : Int) from by first | rfl | decide]
    rw [ypI (m_t88 s) (by omega), ygIv (x := (-1000000)) (m_t88 s) (by first | rfl | (simp (disch := omega) only [up_na, up_ni, up_eq, cpy_n]; done) | (simp (disch := omega) only [up_na, up_ni, up_eq, cpy_n]; first | rfl | (exact congrFun (m_I s (by omega) (by omega)) _))), if_neg (by first | rfl | omega | decide), ypI (m_t88 s) (by omega), e_M_weighsRow_62, yck (m_t88 s), r_M_townMany, e_M_townMany, ygR (m_t88 s) (m_r2 s), xB_s, yaIv (i := 183) (j := 183) (x := 0) (m_t90 s) (m_l90 s) rfl (by omega) (by first | rfl | (simp (disch := omega) only [up_na, up_ni, up_eq, cpy_n]; done) | (simp (disch := omega) only [up_na, up_ni, up_eq, cpy_n]; first | rfl | (exact congrFun (m_I s (by omega) (by omega)) _))), kI_o, if_neg (by first | rfl | omega | decide), kV_o]
    try rw [show wr (0 + (-1)) = ((-1) : Int) from by first | rfl | decide]
    rw [e_M_goesThrough_37, if_pos (by first | rfl | omega | decide), kV_o, if_pos (by first | assumption | omega), ygIv (x := 0) (m_t88 s) (by first | rfl | (simp (disch := omega) only [up_na, up_ni, up_eq, cpy_n]; done) | (simp (disch := omega) only [up_na, up_ni, up_eq, cpy_n]; first | rfl | (exact congrFun (m_I s (by omega) (by omega)) _)))]
    exact M_fin (by first | rfl | omega | (rw [if_pos (by omega)]; done) | (rw [if_neg (by omega)]; done)) (by first | rfl | (simp (disch := omega) only [up_na, cpy_n]; done))
  · rw [if_neg c1, yck (m_t88 s), r_M_isTown, e_M_isTown, yck (m_t88 s), r_M_townMany, e_M_townMany, ygR (m_t88 s) (m_r2 s), xB_s, yaIv (i := 183) (j := 183) (x := 0) (m_t90 s) (m_l90 s) rfl (by omega) (by first | rfl | (exact congrFun (m_I s (by omega) (by omega)) _)), kI_o]
    try rw [show wr (0 - 1) = ((-1) : Int) from by first | rfl | decide]
    rw [r_M_lies, e_M_lies]
    by_cases c2 : x < 0
    · rw [if_pos c2, xZ_0, kI_o, xZ_0, kI_o, if_pos (by first | rfl | omega | decide)]
      exact M_fin (by first | rfl | omega | (rw [if_pos (by omega)]; done) | (rw [if_neg (by omega)]; done)) rfl
    · rw [if_neg c2, if_neg (by first | assumption | omega), xZ_0, kI_o, xZ_0, kI_o, if_pos (by first | rfl | omega | decide)]
      exact M_fin (by first | rfl | omega | (rw [if_pos (by omega)]; done) | (rw [if_neg (by omega)]; done)) rfl
theorem pM_anew (s : StM h I J) (x : Int) : ∃ I1 J1, rn (d + 8) 254 [iR (some 88), iI x] (st h I J) = some (oI (if x = -1 then 0 else -1), st h I1 J1) ∧ I1 0 = I 0 := by
  rw [r_M_anew, e_M_anew]
  by_cases c1 : x = (-1)
  · rw [if_pos c1, yck (m_t88 s), r_M_laysWorths, e_M_laysWorths, e_M_laysWorths_2, yck (m_t88 s), r_M_townMany, e_M_townMany, ygR (m_t88 s) (m_r2 s), xB_s, yaIv (i := 183) (j := 183) (x := 0) (m_t90 s) (m_l90 s) rfl (by omega) (by first | rfl | (exact congrFun (m_I s (by omega) (by omega)) _)), kI_o, if_neg (by first | rfl | omega | decide), kV_o, yck (m_t88 s), r_M_goesThrough, e_M_goesThrough, ypI (m_t88 s) (by omega), ypI (m_t88 s) (by omega), e_M_goesThrough_16, yck (m_t88 s), r_M_townMany, e_M_townMany, ygR (m_t88 s) (m_r2 s), xB_s, yaIv (i := 183) (j := 183) (x := 0) (m_t90 s) (m_l90 s) rfl (by omega) (by first | rfl | (simp (disch := omega) only [up_na, up_ni, up_eq, cpy_n]; done) | (simp (disch := omega) only [up_na, up_ni, up_eq, cpy_n]; first | rfl | (exact congrFun (m_I s (by omega) (by omega)) _))), kI_o, if_neg (by first | rfl | omega | decide), e_M_goesThrough_37, if_neg (by first | rfl | omega | decide), yck (m_t88 s), r_M_townMany, e_M_townMany, ygR (m_t88 s) (m_r2 s), xB_s, yaIv (i := 183) (j := 183) (x := 0) (m_t90 s) (m_l90 s) rfl (by omega) (by first | rfl | (simp (disch := omega) only [up_na, up_ni, up_eq, cpy_n]; done) | (simp (disch := omega) only [up_na, up_ni, up_eq, cpy_n]; first | rfl | (exact congrFun (m_I s (by omega) (by omega)) _))), kI_o, if_pos (by first | rfl | omega | decide), yck (m_t88 s), r_M_weighsRow, e_M_weighsRow, e_M_weighsRow_4, yck (m_t88 s), r_M_townMany, e_M_townMany, ygR (m_t88 s) (m_r2 s), xB_s, yaIv (i := 183) (j := 183) (x := 0) (m_t90 s) (m_l90 s) rfl (by omega) (by first | rfl | (simp (disch := omega) only [up_na, up_ni, up_eq, cpy_n]; done) | (simp (disch := omega) only [up_na, up_ni, up_eq, cpy_n]; first | rfl | (exact congrFun (m_I s (by omega) (by omega)) _))), kI_o, if_neg (by first | rfl | omega | decide), ygIv (x := 0) (m_t88 s) (by first | rfl | (simp (disch := omega) only [up_na, up_ni, up_eq, cpy_n]; done) | (simp (disch := omega) only [up_na, up_ni, up_eq, cpy_n]; first | rfl | (exact congrFun (m_I s (by omega) (by omega)) _)))]
    try rw [show wr (0 + 1) = (1 : Int) from by first | rfl | decide]
    rw [ypI (m_t88 s) (by omega), ygIv (x := (-1000000)) (m_t88 s) (by first | rfl | (simp (disch := omega) only [up_na, up_ni, up_eq, cpy_n]; done) | (simp (disch := omega) only [up_na, up_ni, up_eq, cpy_n]; first | rfl | (exact congrFun (m_I s (by omega) (by omega)) _))), if_neg (by first | rfl | omega | decide), ypI (m_t88 s) (by omega), e_M_weighsRow_62, yck (m_t88 s), r_M_townMany, e_M_townMany, ygR (m_t88 s) (m_r2 s), xB_s, yaIv (i := 183) (j := 183) (x := 0) (m_t90 s) (m_l90 s) rfl (by omega) (by first | rfl | (simp (disch := omega) only [up_na, up_ni, up_eq, cpy_n]; done) | (simp (disch := omega) only [up_na, up_ni, up_eq, cpy_n]; first | rfl | (exact congrFun (m_I s (by omega) (by omega)) _))), kI_o, if_neg (by first | rfl | omega | decide), kV_o]
    try rw [show wr (0 + (-1)) = ((-1) : Int) from by first | rfl | decide]
    rw [e_M_goesThrough_37, if_pos (by first | rfl | omega | decide), kV_o, ygIv (x := 1) (m_t88 s) (by first | rfl | (simp (disch := omega) only [up_na, up_ni, up_eq, cpy_n]; done) | (simp (disch := omega) only [up_na, up_ni, up_eq, cpy_n]; first | rfl | (exact congrFun (m_I s (by omega) (by omega)) _))), if_neg (by first | rfl | omega | decide), if_pos (by first | assumption | omega), ygIv (x := 0) (m_t88 s) (by first | rfl | (simp (disch := omega) only [up_na, up_ni, up_eq, cpy_n]; done) | (simp (disch := omega) only [up_na, up_ni, up_eq, cpy_n]; first | rfl | (exact congrFun (m_I s (by omega) (by omega)) _)))]
    try rw [show wr (-0) = (0 : Int) from by first | rfl | decide]
    exact M_fin (by first | rfl | omega | (rw [if_pos (by omega)]; done) | (rw [if_neg (by omega)]; done)) (by first | rfl | (simp (disch := omega) only [up_na, cpy_n]; done))
  · rw [if_neg c1, yck (m_t88 s), r_M_isTown, e_M_isTown, yck (m_t88 s), r_M_townMany, e_M_townMany, ygR (m_t88 s) (m_r2 s), xB_s, yaIv (i := 183) (j := 183) (x := 0) (m_t90 s) (m_l90 s) rfl (by omega) (by first | rfl | (exact congrFun (m_I s (by omega) (by omega)) _)), kI_o]
    try rw [show wr (0 - 1) = ((-1) : Int) from by first | rfl | decide]
    rw [r_M_lies, e_M_lies]
    by_cases c2 : x < 0
    · rw [if_pos c2, xZ_0, kI_o, xZ_0, kI_o, if_pos (by first | rfl | omega | decide)]
      exact M_fin (by first | rfl | omega | (rw [if_pos (by omega)]; done) | (rw [if_neg (by omega)]; done)) rfl
    · rw [if_neg c2, if_neg (by first | assumption | omega), xZ_0, kI_o, xZ_0, kI_o, if_pos (by first | rfl | omega | decide)]
      exact M_fin (by first | rfl | omega | (rw [if_pos (by omega)]; done) | (rw [if_neg (by omega)]; done)) rfl
theorem pM_newOnes (s : StM h I J) : ∃ I1 J1, rn (d + 8) 255 [iR (some 88)] (st h I J) = some (oI (1), st h I1 J1) ∧ I1 0 = I 0 := by
  rw [r_M_newOnes, e_M_newOnes, yck (m_t88 s), r_M_laysWorths, e_M_laysWorths, e_M_laysWorths_2, yck (m_t88 s), r_M_townMany, e_M_townMany, ygR (m_t88 s) (m_r2 s), xB_s, yaIv (i := 183) (j := 183) (x := 0) (m_t90 s) (m_l90 s) rfl (by omega) (by first | rfl | (exact congrFun (m_I s (by omega) (by omega)) _)), kI_o, if_neg (by first | rfl | omega | decide), kV_o, yck (m_t88 s), r_M_goesThrough, e_M_goesThrough, ypI (m_t88 s) (by omega), ypI (m_t88 s) (by omega), e_M_goesThrough_16, yck (m_t88 s), r_M_townMany, e_M_townMany, ygR (m_t88 s) (m_r2 s), xB_s, yaIv (i := 183) (j := 183) (x := 0) (m_t90 s) (m_l90 s) rfl (by omega) (by first | rfl | (simp (disch := omega) only [up_na, up_ni, up_eq, cpy_n]; done) | (simp (disch := omega) only [up_na, up_ni, up_eq, cpy_n]; first | rfl | (exact congrFun (m_I s (by omega) (by omega)) _))), kI_o, if_neg (by first | rfl | omega | decide), e_M_goesThrough_37, if_neg (by first | rfl | omega | decide), yck (m_t88 s), r_M_townMany, e_M_townMany, ygR (m_t88 s) (m_r2 s), xB_s, yaIv (i := 183) (j := 183) (x := 0) (m_t90 s) (m_l90 s) rfl (by omega) (by first | rfl | (simp (disch := omega) only [up_na, up_ni, up_eq, cpy_n]; done) | (simp (disch := omega) only [up_na, up_ni, up_eq, cpy_n]; first | rfl | (exact congrFun (m_I s (by omega) (by omega)) _))), kI_o, if_pos (by first | rfl | omega | decide), yck (m_t88 s), r_M_weighsRow, e_M_weighsRow, e_M_weighsRow_4, yck (m_t88 s), r_M_townMany, e_M_townMany, ygR (m_t88 s) (m_r2 s), xB_s, yaIv (i := 183) (j := 183) (x := 0) (m_t90 s) (m_l90 s) rfl (by omega) (by first | rfl | (simp (disch := omega) only [up_na, up_ni, up_eq, cpy_n]; done) | (simp (disch := omega) only [up_na, up_ni, up_eq, cpy_n]; first | rfl | (exact congrFun (m_I s (by omega) (by omega)) _))), kI_o, if_neg (by first | rfl | omega | decide), ygIv (x := 0) (m_t88 s) (by first | rfl | (simp (disch := omega) only [up_na, up_ni, up_eq, cpy_n]; done) | (simp (disch := omega) only [up_na, up_ni, up_eq, cpy_n]; first | rfl | (exact congrFun (m_I s (by omega) (by omega)) _)))]
  try rw [show wr (0 + 1) = (1 : Int) from by first | rfl | decide]
  rw [ypI (m_t88 s) (by omega), ygIv (x := (-1000000)) (m_t88 s) (by first | rfl | (simp (disch := omega) only [up_na, up_ni, up_eq, cpy_n]; done) | (simp (disch := omega) only [up_na, up_ni, up_eq, cpy_n]; first | rfl | (exact congrFun (m_I s (by omega) (by omega)) _))), if_neg (by first | rfl | omega | decide), ypI (m_t88 s) (by omega), e_M_weighsRow_62, yck (m_t88 s), r_M_townMany, e_M_townMany, ygR (m_t88 s) (m_r2 s), xB_s, yaIv (i := 183) (j := 183) (x := 0) (m_t90 s) (m_l90 s) rfl (by omega) (by first | rfl | (simp (disch := omega) only [up_na, up_ni, up_eq, cpy_n]; done) | (simp (disch := omega) only [up_na, up_ni, up_eq, cpy_n]; first | rfl | (exact congrFun (m_I s (by omega) (by omega)) _))), kI_o, if_neg (by first | rfl | omega | decide), kV_o]
  try rw [show wr (0 + (-1)) = ((-1) : Int) from by first | rfl | decide]
  rw [e_M_goesThrough_37, if_pos (by first | rfl | omega | decide), kV_o, ygIv (x := 1) (m_t88 s) (by first | rfl | (simp (disch := omega) only [up_na, up_ni, up_eq, cpy_n]; done) | (simp (disch := omega) only [up_na, up_ni, up_eq, cpy_n]; first | rfl | (exact congrFun (m_I s (by omega) (by omega)) _)))]
  exact M_fin (by first | rfl | omega | (rw [if_pos (by omega)]; done) | (rw [if_neg (by omega)]; done)) (by first | rfl | (simp (disch := omega) only [up_na, cpy_n]; done))
theorem pM_market (s : StM h I J) (x : Int) : ∃ I1 J1, rn (d + 8) 266 [iR (some 88), iI x] (st h I J) = some (oI (-1), st h I1 J1) ∧ I1 0 = I 0 := by
  rw [r_M_market, e_M_market, yck (m_t88 s), r_M_isTown, e_M_isTown, yck (m_t88 s), r_M_townMany, e_M_townMany, ygR (m_t88 s) (m_r2 s), xB_s, yaIv (i := 183) (j := 183) (x := 0) (m_t90 s) (m_l90 s) rfl (by omega) (by first | rfl | (exact congrFun (m_I s (by omega) (by omega)) _)), kI_o]
  try rw [show wr (0 - 1) = ((-1) : Int) from by first | rfl | decide]
  rw [r_M_lies, e_M_lies]
  by_cases c1 : x < 0
  · rw [if_pos c1, xZ_0, kI_o, xZ_0, kI_o, if_pos (by first | rfl | omega | decide)]
    exact M_fin (by first | rfl | omega | (rw [if_pos (by omega)]; done) | (rw [if_neg (by omega)]; done)) rfl
  · rw [if_neg c1, if_neg (by first | assumption | omega), xZ_0, kI_o, xZ_0, kI_o, if_pos (by first | rfl | omega | decide)]
    exact M_fin (by first | rfl | omega | (rw [if_pos (by omega)]; done) | (rw [if_neg (by omega)]; done)) rfl
theorem pM_bargains (s : StM h I J) (x : Int) : ∃ I1 J1, rn (d + 8) 268 [iR (some 88), iI x] (st h I J) = some (oI (if x = -1 then 0 else -1), st h I1 J1) ∧ I1 0 = I 0 := by
  rw [r_M_bargains, e_M_bargains]
  by_cases c1 : x < (-1)
  · rw [if_pos c1]
    exact M_fin (by first | rfl | omega | (rw [if_pos (by omega)]; done) | (rw [if_neg (by omega)]; done)) rfl
  · rw [if_neg c1, e_M_bargains_11, yck (m_t88 s), r_M_townMany, e_M_townMany, ygR (m_t88 s) (m_r2 s), xB_s, yaIv (i := 183) (j := 183) (x := 0) (m_t90 s) (m_l90 s) rfl (by omega) (by first | rfl | (exact congrFun (m_I s (by omega) (by omega)) _)), kI_o, if_neg (by first | rfl | omega | decide)]
    by_cases c2 : x = (-1)
    · rw [if_pos c2]
      exact M_fin (by first | rfl | omega | (rw [if_pos (by omega)]; done) | (rw [if_neg (by omega)]; done)) rfl
    · rw [if_neg c2]
      exact M_fin (by first | rfl | omega | (rw [if_pos (by omega)]; done) | (rw [if_neg (by omega)]; done)) rfl
theorem pM_envy (s : StM h I J) (x : Int) : ∃ I1 J1, rn (d + 8) 269 [iR (some 88), iI x] (st h I J) = some (oI (-1), st h I1 J1) ∧ I1 0 = I 0 := by
  rw [r_M_envy, e_M_envy, yck (m_t88 s), r_M_isTown, e_M_isTown, yck (m_t88 s), r_M_townMany, e_M_townMany, ygR (m_t88 s) (m_r2 s), xB_s, yaIv (i := 183) (j := 183) (x := 0) (m_t90 s) (m_l90 s) rfl (by omega) (by first | rfl | (exact congrFun (m_I s (by omega) (by omega)) _)), kI_o]
  try rw [show wr (0 - 1) = ((-1) : Int) from by first | rfl | decide]
  rw [r_M_lies, e_M_lies]
  by_cases c1 : x < 0
  · rw [if_pos c1, xZ_0, kI_o, xZ_0, kI_o, if_pos (by first | rfl | omega | decide)]
    exact M_fin (by first | rfl | omega | (rw [if_pos (by omega)]; done) | (rw [if_neg (by omega)]; done)) rfl
  · rw [if_neg c1, if_neg (by first | assumption | omega), xZ_0, kI_o, xZ_0, kI_o, if_pos (by first | rfl | omega | decide)]
    exact M_fin (by first | rfl | omega | (rw [if_pos (by omega)]; done) | (rw [if_neg (by omega)]; done)) rfl
theorem pM_heard (s : StM h I J) (x y : Int) : ∃ I1 J1, rn (d + 8) 270 [iR (some 88), iI x, iI y] (st h I J) = some (oI (if y < 0 ∨ 99 < y then -1 else -2), st h I1 J1) ∧ I1 0 = I 0 := by
  rw [r_M_heard, e_M_heard, r_M_lies, e_M_lies]
  by_cases c1 : y < 0
  · rw [if_pos c1, xZ_0, kI_o, if_pos (by first | rfl | omega | decide), yck (m_t88 s), r_M_refuses, e_M_refuses, ypI (m_t88 s) (by omega), ygR (m_t88 s) (m_r1 s), xB_s]
    try rw [show wr (- (-1)) = (1 : Int) from by first | rfl | decide]
    rw [yaIv (i := 1) (j := 1) (x := 0) (m_t89 s) (m_l89 s) rfl (by omega) (by first | rfl | (simp (disch := omega) only [up_na, up_ni, up_eq, cpy_n]; done) | (simp (disch := omega) only [up_na, up_ni, up_eq, cpy_n]; first | rfl | (exact congrFun (m_I s (by omega) (by omega)) _))), xB_s]
    try rw [show wr (- (-1)) = (1 : Int) from by first | rfl | decide]
    try rw [show wr (0 + 1) = (1 : Int) from by first | rfl | decide]
    rw [zSI (i := 1) (j := 1) (m_t89 s) (by omega) (m_l89 s) rfl (by omega), kI_o]
    exact M_fin (by first | rfl | omega | (rw [if_pos (by omega)]; done) | (rw [if_neg (by omega)]; done)) (by first | rfl | (simp (disch := omega) only [up_na, cpy_n]; done))
  · rw [if_neg c1]
    by_cases c2 : y ≤ 99
    · rw [if_pos c2, xZ_1, kI_o, if_neg (by first | rfl | omega | decide), yck (m_t88 s), r_M_isTown, e_M_isTown, yck (m_t88 s), r_M_townMany, e_M_townMany, ygR (m_t88 s) (m_r2 s), xB_s, yaIv (i := 183) (j := 183) (x := 0) (m_t90 s) (m_l90 s) rfl (by omega) (by first | rfl | (exact congrFun (m_I s (by omega) (by omega)) _)), kI_o]
      try rw [show wr (0 - 1) = ((-1) : Int) from by first | rfl | decide]
      rw [r_M_lies, e_M_lies]
      by_cases c3 : x < 0
      · rw [if_pos c3, xZ_0, kI_o, xZ_0, kI_o, if_pos (by first | rfl | omega | decide), yck (m_t88 s), r_M_refuses, e_M_refuses, ypI (m_t88 s) (by omega), ygR (m_t88 s) (m_r1 s), xB_s]
        try rw [show wr (- (-2)) = (2 : Int) from by first | rfl | decide]
        rw [yaIv (i := 2) (j := 2) (x := 0) (m_t89 s) (m_l89 s) rfl (by omega) (by first | rfl | (simp (disch := omega) only [up_na, up_ni, up_eq, cpy_n]; done) | (simp (disch := omega) only [up_na, up_ni, up_eq, cpy_n]; first | rfl | (exact congrFun (m_I s (by omega) (by omega)) _))), xB_s]
        try rw [show wr (- (-2)) = (2 : Int) from by first | rfl | decide]
        try rw [show wr (0 + 1) = (1 : Int) from by first | rfl | decide]
        rw [zSI (i := 2) (j := 2) (m_t89 s) (by omega) (m_l89 s) rfl (by omega), kI_o]
        exact M_fin (by first | rfl | omega | (rw [if_pos (by omega)]; done) | (rw [if_neg (by omega)]; done)) (by first | rfl | (simp (disch := omega) only [up_na, cpy_n]; done))
      · rw [if_neg c3, if_neg (by first | assumption | omega), xZ_0, kI_o, xZ_0, kI_o, if_pos (by first | rfl | omega | decide), yck (m_t88 s), r_M_refuses, e_M_refuses, ypI (m_t88 s) (by omega), ygR (m_t88 s) (m_r1 s), xB_s]
        try rw [show wr (- (-2)) = (2 : Int) from by first | rfl | decide]
        rw [yaIv (i := 2) (j := 2) (x := 0) (m_t89 s) (m_l89 s) rfl (by omega) (by first | rfl | (simp (disch := omega) only [up_na, up_ni, up_eq, cpy_n]; done) | (simp (disch := omega) only [up_na, up_ni, up_eq, cpy_n]; first | rfl | (exact congrFun (m_I s (by omega) (by omega)) _))), xB_s]
        try rw [show wr (- (-2)) = (2 : Int) from by first | rfl | decide]
        try rw [show wr (0 + 1) = (1 : Int) from by first | rfl | decide]
        rw [zSI (i := 2) (j := 2) (m_t89 s) (by omega) (m_l89 s) rfl (by omega), kI_o]
        exact M_fin (by first | rfl | omega | (rw [if_pos (by omega)]; done) | (rw [if_neg (by omega)]; done)) (by first | rfl | (simp (disch := omega) only [up_na, cpy_n]; done))
    · rw [if_neg c2, xZ_0, kI_o, if_pos (by first | rfl | omega | decide), yck (m_t88 s), r_M_refuses, e_M_refuses, ypI (m_t88 s) (by omega), ygR (m_t88 s) (m_r1 s), xB_s]
      try rw [show wr (- (-1)) = (1 : Int) from by first | rfl | decide]
      rw [yaIv (i := 1) (j := 1) (x := 0) (m_t89 s) (m_l89 s) rfl (by omega) (by first | rfl | (simp (disch := omega) only [up_na, up_ni, up_eq, cpy_n]; done) | (simp (disch := omega) only [up_na, up_ni, up_eq, cpy_n]; first | rfl | (exact congrFun (m_I s (by omega) (by omega)) _))), xB_s]
      try rw [show wr (- (-1)) = (1 : Int) from by first | rfl | decide]
      try rw [show wr (0 + 1) = (1 : Int) from by first | rfl | decide]
      rw [zSI (i := 1) (j := 1) (m_t89 s) (by omega) (m_l89 s) rfl (by omega), kI_o]
      exact M_fin (by first | rfl | omega | (rw [if_pos (by omega)]; done) | (rw [if_neg (by omega)]; done)) (by first | rfl | (simp (disch := omega) only [up_na, cpy_n]; done))
theorem pM_forget (s : StM h I J) : ∃ I1 J1, rn (d + 8) 271 [iR (some 88)] (st h I J) = some (oI (0), st h I1 J1) ∧ I1 0 = I 0 := by
  rw [r_M_forget, e_M_forget, ygR (m_t88 s) (m_r2 s), xB_s, yaIv (i := 184) (j := 184) (x := 0) (m_t90 s) (m_l90 s) rfl (by omega) (by first | rfl | (exact congrFun (m_I s (by omega) (by omega)) _)), ygR (m_t88 s) (m_r2 s), xB_s, zSI (i := 184) (j := 184) (m_t90 s) (by omega) (m_l90 s) rfl (by omega)]
  exact M_fin (by first | rfl | omega | (rw [if_pos (by omega)]; done) | (rw [if_neg (by omega)]; done)) (by first | rfl | (simp (disch := omega) only [up_na, cpy_n]; done))
theorem pM_canBe (s : StM h I J) : ∃ I1 J1, rn (d + 8) 273 [iR (some 88)] (st h I J) = some (oI (0), st h I1 J1) ∧ I1 0 = I 0 := by
  rw [r_M_canBe, e_M_canBe, e_M_canBe_4, yck (m_t88 s), r_M_townMany, e_M_townMany, ygR (m_t88 s) (m_r2 s), xB_s, yaIv (i := 183) (j := 183) (x := 0) (m_t90 s) (m_l90 s) rfl (by omega) (by first | rfl | (exact congrFun (m_I s (by omega) (by omega)) _)), kI_o, if_neg (by first | rfl | omega | decide)]
  exact M_fin (by first | rfl | omega | (rw [if_pos (by omega)]; done) | (rw [if_neg (by omega)]; done)) rfl
theorem pM_ask (s : StM h I J) (x : Int) : ∃ I1 J1, rn (d + 8) 275 [iR (some 88), iI x] (st h I J) = some (oI (-1), st h I1 J1) ∧ I1 0 = I 0 := by
  rw [r_M_ask, e_M_ask, r_M_lies, e_M_lies]
  by_cases c1 : x < 0
  · rw [if_pos c1, xZ_0, kI_o, if_pos (by first | rfl | omega | decide)]
    exact M_fin (by first | rfl | omega | (rw [if_pos (by omega)]; done) | (rw [if_neg (by omega)]; done)) rfl
  · rw [if_neg c1]
    by_cases c2 : x ≤ 1
    · rw [if_pos c2, xZ_1, kI_o, if_neg (by first | rfl | omega | decide), yck (m_t88 s), r_M_canBe, e_M_canBe, e_M_canBe_4, yck (m_t88 s), r_M_townMany, e_M_townMany, ygR (m_t88 s) (m_r2 s), xB_s, yaIv (i := 183) (j := 183) (x := 0) (m_t90 s) (m_l90 s) rfl (by omega) (by first | rfl | (exact congrFun (m_I s (by omega) (by omega)) _)), kI_o, if_neg (by first | rfl | omega | decide), kI_o, yck (m_t88 s), r_M_laysWorths, e_M_laysWorths, e_M_laysWorths_2, yck (m_t88 s), r_M_townMany, e_M_townMany, ygR (m_t88 s) (m_r2 s), xB_s, yaIv (i := 183) (j := 183) (x := 0) (m_t90 s) (m_l90 s) rfl (by omega) (by first | rfl | (exact congrFun (m_I s (by omega) (by omega)) _)), kI_o, if_neg (by first | rfl | omega | decide), kV_o, e_M_ask_30, yck (m_t88 s), r_M_townMany, e_M_townMany, ygR (m_t88 s) (m_r2 s), xB_s, yaIv (i := 183) (j := 183) (x := 0) (m_t90 s) (m_l90 s) rfl (by omega) (by first | rfl | (exact congrFun (m_I s (by omega) (by omega)) _)), kI_o, if_neg (by first | rfl | omega | decide), if_pos (by first | rfl | omega | decide)]
      exact M_fin (by first | rfl | omega | (rw [if_pos (by omega)]; done) | (rw [if_neg (by omega)]; done)) rfl
    · rw [if_neg c2, xZ_0, kI_o, if_pos (by first | rfl | omega | decide)]
      exact M_fin (by first | rfl | omega | (rw [if_pos (by omega)]; done) | (rw [if_neg (by omega)]; done)) rfl
theorem pM_compare (s : StM h I J) (x y z : Int) : ∃ I1 J1, rn (d + 8) 277 [iR (some 88), iI x, iI y, iI z] (st h I J) = some (oI (-1), st h I1 J1) ∧ I1 0 = I 0 := by
  rw [r_M_compare, e_M_compare, yck (m_t88 s), r_M_isLaw, e_M_isLaw, ygR (m_t88 s) (m_r2 s), xB_s, yaIv (i := 185) (j := 185) (x := 0) (m_t90 s) (m_l90 s) rfl (by omega) (by first | rfl | (exact congrFun (m_I s (by omega) (by omega)) _))]
  try rw [show wr (0 - 1) = ((-1) : Int) from by first | rfl | decide]
  rw [r_M_lies, e_M_lies]
  by_cases c1 : x < (-1)
  · rw [if_pos c1, xZ_0, kI_o, xZ_0, kI_o, if_pos (by first | rfl | omega | decide)]
    exact M_fin (by first | rfl | omega | (rw [if_pos (by omega)]; done) | (rw [if_neg (by omega)]; done)) rfl
  · rw [if_neg c1]
    by_cases c2 : x ≤ (-1)
    · rw [if_pos c2, xZ_1, kI_o, xZ_1, kI_o, if_neg (by first | rfl | omega | decide), yck (m_t88 s), r_M_isTown, e_M_isTown, yck (m_t88 s), r_M_townMany, e_M_townMany, ygR (m_t88 s) (m_r2 s), xB_s, yaIv (i := 183) (j := 183) (x := 0) (m_t90 s) (m_l90 s) rfl (by omega) (by first | rfl | (exact congrFun (m_I s (by omega) (by omega)) _)), kI_o]
      try rw [show wr (0 - 1) = ((-1) : Int) from by first | rfl | decide]
      rw [r_M_lies, e_M_lies]
      by_cases c3 : y < 0
      · rw [if_pos c3, xZ_0, kI_o, xZ_0, kI_o, if_pos (by first | rfl | omega | decide)]
        exact M_fin (by first | rfl | omega | (rw [if_pos (by omega)]; done) | (rw [if_neg (by omega)]; done)) rfl
      · rw [if_neg c3, if_neg (by first | assumption | omega), xZ_0, kI_o, xZ_0, kI_o, if_pos (by first | rfl | omega | decide)]
        exact M_fin (by first | rfl | omega | (rw [if_pos (by omega)]; done) | (rw [if_neg (by omega)]; done)) rfl
    · rw [if_neg c2, xZ_0, kI_o, xZ_0, kI_o, if_pos (by first | rfl | omega | decide)]
      exact M_fin (by first | rfl | omega | (rw [if_pos (by omega)]; done) | (rw [if_neg (by omega)]; done)) rfl
theorem pM_centuries (s : StM h I J) (x y : Int) : ∃ I1 J1, rn (d + 8) 286 [iR (some 88), iI x, iI y] (st h I J) = some (oI (if x < 0 ∨ 1000000 < x ∨ y < 1 ∨ 60 < y then -1 else -3), st h I1 J1) ∧ I1 0 = I 0 := by
  rw [r_M_centuries, e_M_centuries, r_M_lies, e_M_lies]
  by_cases c1 : x < 0
  · rw [if_pos c1, xZ_0, kI_o, if_pos (by first | rfl | omega | decide), yck (m_t88 s), r_M_refuses, e_M_refuses, ypI (m_t88 s) (by omega), ygR (m_t88 s) (m_r1 s), xB_s]
    try rw [show wr (- (-1)) = (1 : Int) from by first | rfl | decide]
    rw [yaIv (i := 1) (j := 1) (x := 0) (m_t89 s) (m_l89 s) rfl (by omega) (by first | rfl | (simp (disch := omega) only [up_na, up_ni, up_eq, cpy_n]; done) | (simp (disch := omega) only [up_na, up_ni, up_eq, cpy_n]; first | rfl | (exact congrFun (m_I s (by omega) (by omega)) _))), xB_s]
    try rw [show wr (- (-1)) = (1 : Int) from by first | rfl | decide]
    try rw [show wr (0 + 1) = (1 : Int) from by first | rfl | decide]
    rw [zSI (i := 1) (j := 1) (m_t89 s) (by omega) (m_l89 s) rfl (by omega), kI_o]
    exact M_fin (by first | rfl | omega | (rw [if_pos (by omega)]; done) | (rw [if_neg (by omega)]; done)) (by first | rfl | (simp (disch := omega) only [up_na, cpy_n]; done))
  · rw [if_neg c1]
    by_cases c2 : x ≤ 1000000
    · rw [if_pos c2, xZ_1, kI_o, if_neg (by first | rfl | omega | decide), r_M_lies, e_M_lies]
      by_cases c3 : y < 1
      · rw [if_pos c3, xZ_0, kI_o, if_pos (by first | rfl | omega | decide), yck (m_t88 s), r_M_refuses, e_M_refuses, ypI (m_t88 s) (by omega), ygR (m_t88 s) (m_r1 s), xB_s]
        try rw [show wr (- (-1)) = (1 : Int) from by first | rfl | decide]
        rw [yaIv (i := 1) (j := 1) (x := 0) (m_t89 s) (m_l89 s) rfl (by omega) (by first | rfl | (simp (disch := omega) only [up_na, up_ni, up_eq, cpy_n]; done) | (simp (disch := omega) only [up_na, up_ni, up_eq, cpy_n]; first | rfl | (exact congrFun (m_I s (by omega) (by omega)) _))), xB_s]
        try rw [show wr (- (-1)) = (1 : Int) from by first | rfl | decide]
        try rw [show wr (0 + 1) = (1 : Int) from by first | rfl | decide]
        rw [zSI (i := 1) (j := 1) (m_t89 s) (by omega) (m_l89 s) rfl (by omega), kI_o]
        exact M_fin (by first | rfl | omega | (rw [if_pos (by omega)]; done) | (rw [if_neg (by omega)]; done)) (by first | rfl | (simp (disch := omega) only [up_na, cpy_n]; done))
      · rw [if_neg c3]
        by_cases c4 : y ≤ 60
        · rw [if_pos c4, xZ_1, kI_o, if_neg (by first | rfl | omega | decide), yck (m_t88 s), r_M_townMany, e_M_townMany, ygR (m_t88 s) (m_r2 s), xB_s, yaIv (i := 183) (j := 183) (x := 0) (m_t90 s) (m_l90 s) rfl (by omega) (by first | rfl | (exact congrFun (m_I s (by omega) (by omega)) _)), kI_o, if_pos (by first | rfl | omega | decide), yck (m_t88 s), r_M_refuses, e_M_refuses, ypI (m_t88 s) (by omega), ygR (m_t88 s) (m_r1 s), xB_s]
          try rw [show wr (- (-3)) = (3 : Int) from by first | rfl | decide]
          rw [yaIv (i := 3) (j := 3) (x := 0) (m_t89 s) (m_l89 s) rfl (by omega) (by first | rfl | (simp (disch := omega) only [up_na, up_ni, up_eq, cpy_n]; done) | (simp (disch := omega) only [up_na, up_ni, up_eq, cpy_n]; first | rfl | (exact congrFun (m_I s (by omega) (by omega)) _))), xB_s]
          try rw [show wr (- (-3)) = (3 : Int) from by first | rfl | decide]
          try rw [show wr (0 + 1) = (1 : Int) from by first | rfl | decide]
          rw [zSI (i := 3) (j := 3) (m_t89 s) (by omega) (m_l89 s) rfl (by omega), kI_o]
          exact M_fin (by first | rfl | omega | (rw [if_pos (by omega)]; done) | (rw [if_neg (by omega)]; done)) (by first | rfl | (simp (disch := omega) only [up_na, cpy_n]; done))
        · rw [if_neg c4, xZ_0, kI_o, if_pos (by first | rfl | omega | decide), yck (m_t88 s), r_M_refuses, e_M_refuses, ypI (m_t88 s) (by omega), ygR (m_t88 s) (m_r1 s), xB_s]
          try rw [show wr (- (-1)) = (1 : Int) from by first | rfl | decide]
          rw [yaIv (i := 1) (j := 1) (x := 0) (m_t89 s) (m_l89 s) rfl (by omega) (by first | rfl | (simp (disch := omega) only [up_na, up_ni, up_eq, cpy_n]; done) | (simp (disch := omega) only [up_na, up_ni, up_eq, cpy_n]; first | rfl | (exact congrFun (m_I s (by omega) (by omega)) _))), xB_s]
          try rw [show wr (- (-1)) = (1 : Int) from by first | rfl | decide]
          try rw [show wr (0 + 1) = (1 : Int) from by first | rfl | decide]
          rw [zSI (i := 1) (j := 1) (m_t89 s) (by omega) (m_l89 s) rfl (by omega), kI_o]
          exact M_fin (by first | rfl | omega | (rw [if_pos (by omega)]; done) | (rw [if_neg (by omega)]; done)) (by first | rfl | (simp (disch := omega) only [up_na, cpy_n]; done))
    · rw [if_neg c2, xZ_0, kI_o, if_pos (by first | rfl | omega | decide), yck (m_t88 s), r_M_refuses, e_M_refuses, ypI (m_t88 s) (by omega), ygR (m_t88 s) (m_r1 s), xB_s]
      try rw [show wr (- (-1)) = (1 : Int) from by first | rfl | decide]
      rw [yaIv (i := 1) (j := 1) (x := 0) (m_t89 s) (m_l89 s) rfl (by omega) (by first | rfl | (simp (disch := omega) only [up_na, up_ni, up_eq, cpy_n]; done) | (simp (disch := omega) only [up_na, up_ni, up_eq, cpy_n]; first | rfl | (exact congrFun (m_I s (by omega) (by omega)) _))), xB_s]
      try rw [show wr (- (-1)) = (1 : Int) from by first | rfl | decide]
      try rw [show wr (0 + 1) = (1 : Int) from by first | rfl | decide]
      rw [zSI (i := 1) (j := 1) (m_t89 s) (by omega) (m_l89 s) rfl (by omega), kI_o]
      exact M_fin (by first | rfl | omega | (rw [if_pos (by omega)]; done) | (rw [if_neg (by omega)]; done)) (by first | rfl | (simp (disch := omega) only [up_na, cpy_n]; done))
theorem pM_drawn (s : StM h I J) (x y : Int) : ∃ I1 J1, rn (d + 8) 287 [iR (some 88), iI x, iI y] (st h I J) = some (oI (-1), st h I1 J1) ∧ I1 0 = I 0 := by
  rw [r_M_drawn, e_M_drawn, ygIv (x := (-1)) (m_t88 s) (by first | rfl | (exact congrFun (m_I s (by omega) (by omega)) _))]
  try rw [show wr ((-1) - 1) = ((-2) : Int) from by first | rfl | decide]
  rw [r_M_lies, e_M_lies]
  by_cases c1 : x < 0
  · rw [if_pos c1, xZ_0, kI_o, if_pos (by first | rfl | omega | decide)]
    exact M_fin (by first | rfl | omega | (rw [if_pos (by omega)]; done) | (rw [if_neg (by omega)]; done)) rfl
  · rw [if_neg c1, if_neg (by first | assumption | omega), xZ_0, kI_o, if_pos (by first | rfl | omega | decide)]
    exact M_fin (by first | rfl | omega | (rw [if_pos (by omega)]; done) | (rw [if_neg (by omega)]; done)) rfl
theorem pM_back0 (s : StM h I J) : ∃ I1 J1, rn (d + 8) 159 [iR (some 88), iI 0] (st h I J) = some (oI (-2), st h I1 J1) ∧ I1 0 = I 0 := by
  rw [r_M_back, e_M_back, r_M_lies, e_M_lies, if_neg (by first | rfl | omega | decide), if_pos (by first | rfl | omega | decide), xZ_1, kI_o, if_neg (by first | rfl | omega | decide), ygR (m_t88 s) (m_r4 s), xB_s, yaBv (i := 0) (j := 0) (x := 0) (Or.inr (m_t92 s)) (m_l92 s) rfl (by omega) (by first | rfl | (exact congrFun (m_I s (by omega) (by omega)) _)), if_pos (by first | rfl | omega | decide), yck (m_t88 s), r_M_refuses, e_M_refuses, ypI (m_t88 s) (by omega), ygR (m_t88 s) (m_r1 s), xB_s]
  try rw [show wr (- (-2)) = (2 : Int) from by first | rfl | decide]
  rw [yaIv (i := 2) (j := 2) (x := 0) (m_t89 s) (m_l89 s) rfl (by omega) (by first | rfl | (simp (disch := omega) only [up_na, up_ni, up_eq, cpy_n]; done) | (simp (disch := omega) only [up_na, up_ni, up_eq, cpy_n]; first | rfl | (exact congrFun (m_I s (by omega) (by omega)) _))), xB_s]
  try rw [show wr (- (-2)) = (2 : Int) from by first | rfl | decide]
  try rw [show wr (0 + 1) = (1 : Int) from by first | rfl | decide]
  rw [zSI (i := 2) (j := 2) (m_t89 s) (by omega) (m_l89 s) rfl (by omega), kI_o]
  exact M_fin (by first | rfl | omega | (rw [if_pos (by omega)]; done) | (rw [if_neg (by omega)]; done)) (by first | rfl | (simp (disch := omega) only [up_na, cpy_n]; done))
theorem pM_back1 (s : StM h I J) : ∃ I1 J1, rn (d + 8) 159 [iR (some 88), iI 1] (st h I J) = some (oI (-2), st h I1 J1) ∧ I1 0 = I 0 := by
  rw [r_M_back, e_M_back, r_M_lies, e_M_lies, if_neg (by first | rfl | omega | decide), if_pos (by first | rfl | omega | decide), xZ_1, kI_o, if_neg (by first | rfl | omega | decide), ygR (m_t88 s) (m_r4 s), xB_s, yaBv (i := 1) (j := 1) (x := 0) (Or.inr (m_t92 s)) (m_l92 s) rfl (by omega) (by first | rfl | (exact congrFun (m_I s (by omega) (by omega)) _)), if_pos (by first | rfl | omega | decide), yck (m_t88 s), r_M_refuses, e_M_refuses, ypI (m_t88 s) (by omega), ygR (m_t88 s) (m_r1 s), xB_s]
  try rw [show wr (- (-2)) = (2 : Int) from by first | rfl | decide]
  rw [yaIv (i := 2) (j := 2) (x := 0) (m_t89 s) (m_l89 s) rfl (by omega) (by first | rfl | (simp (disch := omega) only [up_na, up_ni, up_eq, cpy_n]; done) | (simp (disch := omega) only [up_na, up_ni, up_eq, cpy_n]; first | rfl | (exact congrFun (m_I s (by omega) (by omega)) _))), xB_s]
  try rw [show wr (- (-2)) = (2 : Int) from by first | rfl | decide]
  try rw [show wr (0 + 1) = (1 : Int) from by first | rfl | decide]
  rw [zSI (i := 2) (j := 2) (m_t89 s) (by omega) (m_l89 s) rfl (by omega), kI_o]
  exact M_fin (by first | rfl | omega | (rw [if_pos (by omega)]; done) | (rw [if_neg (by omega)]; done)) (by first | rfl | (simp (disch := omega) only [up_na, cpy_n]; done))
theorem pM_backA (s : StM h I J) (x : Int) (hx : x < 0) : ∃ I1 J1, rn (d + 8) 159 [iR (some 88), iI x] (st h I J) = some (oI (-1), st h I1 J1) ∧ I1 0 = I 0 := by
  rw [r_M_back, e_M_back, r_M_lies, e_M_lies, if_pos (by first | assumption | omega), xZ_0, kI_o, if_pos (by first | rfl | omega | decide), yck (m_t88 s), r_M_refuses, e_M_refuses, ypI (m_t88 s) (by omega), ygR (m_t88 s) (m_r1 s), xB_s]
  try rw [show wr (- (-1)) = (1 : Int) from by first | rfl | decide]
  rw [yaIv (i := 1) (j := 1) (x := 0) (m_t89 s) (m_l89 s) rfl (by omega) (by first | rfl | (simp (disch := omega) only [up_na, up_ni, up_eq, cpy_n]; done) | (simp (disch := omega) only [up_na, up_ni, up_eq, cpy_n]; first | rfl | (exact congrFun (m_I s (by omega) (by omega)) _))), xB_s]
  try rw [show wr (- (-1)) = (1 : Int) from by first | rfl | decide]
  try rw [show wr (0 + 1) = (1 : Int) from by first | rfl | decide]
  rw [zSI (i := 1) (j := 1) (m_t89 s) (by omega) (m_l89 s) rfl (by omega), kI_o]
  exact M_fin (by first | rfl | omega | (rw [if_pos (by omega)]; done) | (rw [if_neg (by omega)]; done)) (by first | rfl | (simp (disch := omega) only [up_na, cpy_n]; done))
theorem pM_backB (s : StM h I J) (x : Int) (hx : 1 < x) : ∃ I1 J1, rn (d + 8) 159 [iR (some 88), iI x] (st h I J) = some (oI (-1), st h I1 J1) ∧ I1 0 = I 0 := by
  rw [r_M_back, e_M_back, r_M_lies, e_M_lies, if_neg (by first | assumption | omega), if_neg (by first | assumption | omega), xZ_0, kI_o, if_pos (by first | rfl | omega | decide), yck (m_t88 s), r_M_refuses, e_M_refuses, ypI (m_t88 s) (by omega), ygR (m_t88 s) (m_r1 s), xB_s]
  try rw [show wr (- (-1)) = (1 : Int) from by first | rfl | decide]
  rw [yaIv (i := 1) (j := 1) (x := 0) (m_t89 s) (m_l89 s) rfl (by omega) (by first | rfl | (simp (disch := omega) only [up_na, up_ni, up_eq, cpy_n]; done) | (simp (disch := omega) only [up_na, up_ni, up_eq, cpy_n]; first | rfl | (exact congrFun (m_I s (by omega) (by omega)) _))), xB_s]
  try rw [show wr (- (-1)) = (1 : Int) from by first | rfl | decide]
  try rw [show wr (0 + 1) = (1 : Int) from by first | rfl | decide]
  rw [zSI (i := 1) (j := 1) (m_t89 s) (by omega) (m_l89 s) rfl (by omega), kI_o]
  exact M_fin (by first | rfl | omega | (rw [if_pos (by omega)]; done) | (rw [if_neg (by omega)]; done)) (by first | rfl | (simp (disch := omega) only [up_na, cpy_n]; done))
theorem pM_status (s : StM h I J) : ∃ I1 J1, rn (d + 8) 290 [iR (some 88)] (st h I J) = some (oI (0), st h I1 J1) ∧ I1 0 = I 0 := by
  rw [r_M_status, e_M_status, ygIv (x := 0) (m_t88 s) (by first | rfl | (exact congrFun (m_I s (by omega) (by omega)) _))]
  exact M_fin (by first | rfl | omega | (rw [if_pos (by omega)]; done) | (rw [if_neg (by omega)]; done)) rfl
theorem pM_terms0 (s : StM h I J) (x : Int) : ∃ I1 J1, rn (d + 8) 174 [iR (some 88), iI 0, iI x] (st h I J) = some (oI (if x < 0 ∨ 999 < x then -1 else 0), st h I1 J1) ∧ I1 0 = I 0 := by
  rw [r_M_terms, e_M_terms, r_M_isTerm, e_M_isTerm, if_pos (by first | rfl | omega | decide), r_M_lies, e_M_lies]
  by_cases c1 : x < 0
  · rw [if_pos c1, xZ_0, kI_o, xZ_0, kI_o, if_pos (by first | rfl | omega | decide), yck (m_t88 s), r_M_refuses, e_M_refuses, ypI (m_t88 s) (by omega), ygR (m_t88 s) (m_r1 s), xB_s]
    try rw [show wr (- (-1)) = (1 : Int) from by first | rfl | decide]
    rw [yaIv (i := 1) (j := 1) (x := 0) (m_t89 s) (m_l89 s) rfl (by omega) (by first | rfl | (simp (disch := omega) only [up_na, up_ni, up_eq, cpy_n]; done) | (simp (disch := omega) only [up_na, up_ni, up_eq, cpy_n]; first | rfl | (exact congrFun (m_I s (by omega) (by omega)) _))), xB_s]
    try rw [show wr (- (-1)) = (1 : Int) from by first | rfl | decide]
    try rw [show wr (0 + 1) = (1 : Int) from by first | rfl | decide]
    rw [zSI (i := 1) (j := 1) (m_t89 s) (by omega) (m_l89 s) rfl (by omega), kI_o]
    exact M_fin (by first | rfl | omega | (rw [if_pos (by omega)]; done) | (rw [if_neg (by omega)]; done)) (by first | rfl | (simp (disch := omega) only [up_na, cpy_n]; done))
  · rw [if_neg c1]
    by_cases c2 : x ≤ 999
    · rw [if_pos c2, xZ_1, kI_o, xZ_1, kI_o, if_neg (by first | rfl | omega | decide), ygR (m_t88 s) (m_r2 s), r_M_termAt, e_M_termAt, if_pos (by first | rfl | omega | decide), kI_o, xB_s, yaIv (i := 112) (j := 112) (x := 0) (m_t90 s) (m_l90 s) rfl (by omega) (by first | rfl | (exact congrFun (m_I s (by omega) (by omega)) _)), ygR (m_t88 s) (m_r2 s), r_M_termAt, e_M_termAt, if_pos (by first | rfl | omega | decide), kI_o, xB_s, zSI (i := 112) (j := 112) (m_t90 s) (by omega) (m_l90 s) rfl (by omega), yck (m_t88 s), r_M_settled, e_M_settled, ypI (m_t88 s) (by omega), yck (m_t88 s), r_M_good, e_M_good, ypI (m_t88 s) (by omega), kI_o, kI_o]
      exact M_fin (by first | rfl | omega | (rw [if_pos (by omega)]; done) | (rw [if_neg (by omega)]; done)) (by first | rfl | (simp (disch := omega) only [up_na, cpy_n]; done))
    · rw [if_neg c2, xZ_0, kI_o, xZ_0, kI_o, if_pos (by first | rfl | omega | decide), yck (m_t88 s), r_M_refuses, e_M_refuses, ypI (m_t88 s) (by omega), ygR (m_t88 s) (m_r1 s), xB_s]
      try rw [show wr (- (-1)) = (1 : Int) from by first | rfl | decide]
      rw [yaIv (i := 1) (j := 1) (x := 0) (m_t89 s) (m_l89 s) rfl (by omega) (by first | rfl | (simp (disch := omega) only [up_na, up_ni, up_eq, cpy_n]; done) | (simp (disch := omega) only [up_na, up_ni, up_eq, cpy_n]; first | rfl | (exact congrFun (m_I s (by omega) (by omega)) _))), xB_s]
      try rw [show wr (- (-1)) = (1 : Int) from by first | rfl | decide]
      try rw [show wr (0 + 1) = (1 : Int) from by first | rfl | decide]
      rw [zSI (i := 1) (j := 1) (m_t89 s) (by omega) (m_l89 s) rfl (by omega), kI_o]
      exact M_fin (by first | rfl | omega | (rw [if_pos (by omega)]; done) | (rw [if_neg (by omega)]; done)) (by first | rfl | (simp (disch := omega) only [up_na, cpy_n]; done))
theorem pM_terms1 (s : StM h I J) (x : Int) : ∃ I1 J1, rn (d + 8) 174 [iR (some 88), iI 1, iI x] (st h I J) = some (oI (if x < 0 ∨ 10 < x then -1 else 1), st h I1 J1) ∧ I1 0 = I 0 := by
  rw [r_M_terms, e_M_terms, r_M_isTerm, e_M_isTerm, if_neg (by first | rfl | omega | decide), if_pos (by first | rfl | omega | decide), r_M_lies, e_M_lies]
  by_cases c1 : x < 0
  · rw [if_pos c1, xZ_0, kI_o, xZ_0, kI_o, if_pos (by first | rfl | omega | decide), yck (m_t88 s), r_M_refuses, e_M_refuses, ypI (m_t88 s) (by omega), ygR (m_t88 s) (m_r1 s), xB_s]
    try rw [show wr (- (-1)) = (1 : Int) from by first | rfl | decide]
    rw [yaIv (i := 1) (j := 1) (x := 0) (m_t89 s) (m_l89 s) rfl (by omega) (by first | rfl | (simp (disch := omega) only [up_na, up_ni, up_eq, cpy_n]; done) | (simp (disch := omega) only [up_na, up_ni, up_eq, cpy_n]; first | rfl | (exact congrFun (m_I s (by omega) (by omega)) _))), xB_s]
    try rw [show wr (- (-1)) = (1 : Int) from by first | rfl | decide]
    try rw [show wr (0 + 1) = (1 : Int) from by first | rfl | decide]
    rw [zSI (i := 1) (j := 1) (m_t89 s) (by omega) (m_l89 s) rfl (by omega), kI_o]
    exact M_fin (by first | rfl | omega | (rw [if_pos (by omega)]; done) | (rw [if_neg (by omega)]; done)) (by first | rfl | (simp (disch := omega) only [up_na, cpy_n]; done))
  · rw [if_neg c1]
    by_cases c2 : x ≤ 10
    · rw [if_pos c2, xZ_1, kI_o, xZ_1, kI_o, if_neg (by first | rfl | omega | decide), ygR (m_t88 s) (m_r2 s), r_M_termAt, e_M_termAt, if_neg (by first | rfl | omega | decide), if_pos (by first | rfl | omega | decide), kI_o, xB_s, yaIv (i := 181) (j := 181) (x := 1) (m_t90 s) (m_l90 s) rfl (by omega) (by first | rfl | (exact congrFun (m_I s (by omega) (by omega)) _)), ygR (m_t88 s) (m_r2 s), r_M_termAt, e_M_termAt, if_neg (by first | rfl | omega | decide), if_pos (by first | rfl | omega | decide), kI_o, xB_s, zSI (i := 181) (j := 181) (m_t90 s) (by omega) (m_l90 s) rfl (by omega), yck (m_t88 s), r_M_settled, e_M_settled, ypI (m_t88 s) (by omega), yck (m_t88 s), r_M_good, e_M_good, ypI (m_t88 s) (by omega), kI_o, kI_o]
      exact M_fin (by first | rfl | omega | (rw [if_pos (by omega)]; done) | (rw [if_neg (by omega)]; done)) (by first | rfl | (simp (disch := omega) only [up_na, cpy_n]; done))
    · rw [if_neg c2, xZ_0, kI_o, xZ_0, kI_o, if_pos (by first | rfl | omega | decide), yck (m_t88 s), r_M_refuses, e_M_refuses, ypI (m_t88 s) (by omega), ygR (m_t88 s) (m_r1 s), xB_s]
      try rw [show wr (- (-1)) = (1 : Int) from by first | rfl | decide]
      rw [yaIv (i := 1) (j := 1) (x := 0) (m_t89 s) (m_l89 s) rfl (by omega) (by first | rfl | (simp (disch := omega) only [up_na, up_ni, up_eq, cpy_n]; done) | (simp (disch := omega) only [up_na, up_ni, up_eq, cpy_n]; first | rfl | (exact congrFun (m_I s (by omega) (by omega)) _))), xB_s]
      try rw [show wr (- (-1)) = (1 : Int) from by first | rfl | decide]
      try rw [show wr (0 + 1) = (1 : Int) from by first | rfl | decide]
      rw [zSI (i := 1) (j := 1) (m_t89 s) (by omega) (m_l89 s) rfl (by omega), kI_o]
      exact M_fin (by first | rfl | omega | (rw [if_pos (by omega)]; done) | (rw [if_neg (by omega)]; done)) (by first | rfl | (simp (disch := omega) only [up_na, cpy_n]; done))
theorem pM_terms2 (s : StM h I J) (x : Int) : ∃ I1 J1, rn (d + 8) 174 [iR (some 88), iI 2, iI x] (st h I J) = some (oI (if x < 0 ∨ 9 < x then -1 else 0), st h I1 J1) ∧ I1 0 = I 0 := by
  rw [r_M_terms, e_M_terms, r_M_isTerm, e_M_isTerm, if_neg (by first | rfl | omega | decide), if_neg (by first | rfl | omega | decide), if_pos (by first | rfl | omega | decide), r_M_lies, e_M_lies]
  by_cases c1 : x < 0
  · rw [if_pos c1, xZ_0, kI_o, xZ_0, kI_o, if_pos (by first | rfl | omega | decide), yck (m_t88 s), r_M_refuses, e_M_refuses, ypI (m_t88 s) (by omega), ygR (m_t88 s) (m_r1 s), xB_s]
    try rw [show wr (- (-1)) = (1 : Int) from by first | rfl | decide]
    rw [yaIv (i := 1) (j := 1) (x := 0) (m_t89 s) (m_l89 s) rfl (by omega) (by first | rfl | (simp (disch := omega) only [up_na, up_ni, up_eq, cpy_n]; done) | (simp (disch := omega) only [up_na, up_ni, up_eq, cpy_n]; first | rfl | (exact congrFun (m_I s (by omega) (by omega)) _))), xB_s]
    try rw [show wr (- (-1)) = (1 : Int) from by first | rfl | decide]
    try rw [show wr (0 + 1) = (1 : Int) from by first | rfl | decide]
    rw [zSI (i := 1) (j := 1) (m_t89 s) (by omega) (m_l89 s) rfl (by omega), kI_o]
    exact M_fin (by first | rfl | omega | (rw [if_pos (by omega)]; done) | (rw [if_neg (by omega)]; done)) (by first | rfl | (simp (disch := omega) only [up_na, cpy_n]; done))
  · rw [if_neg c1]
    by_cases c2 : x ≤ 9
    · rw [if_pos c2, xZ_1, kI_o, xZ_1, kI_o, if_neg (by first | rfl | omega | decide), ygR (m_t88 s) (m_r2 s), r_M_termAt, e_M_termAt, if_neg (by first | rfl | omega | decide), if_neg (by first | rfl | omega | decide), kI_o, xB_s, yaIv (i := 182) (j := 182) (x := 0) (m_t90 s) (m_l90 s) rfl (by omega) (by first | rfl | (exact congrFun (m_I s (by omega) (by omega)) _)), ygR (m_t88 s) (m_r2 s), r_M_termAt, e_M_termAt, if_neg (by first | rfl | omega | decide), if_neg (by first | rfl | omega | decide), kI_o, xB_s, zSI (i := 182) (j := 182) (m_t90 s) (by omega) (m_l90 s) rfl (by omega), yck (m_t88 s), r_M_settled, e_M_settled, ypI (m_t88 s) (by omega), yck (m_t88 s), r_M_good, e_M_good, ypI (m_t88 s) (by omega), kI_o, kI_o]
      exact M_fin (by first | rfl | omega | (rw [if_pos (by omega)]; done) | (rw [if_neg (by omega)]; done)) (by first | rfl | (simp (disch := omega) only [up_na, cpy_n]; done))
    · rw [if_neg c2, xZ_0, kI_o, xZ_0, kI_o, if_pos (by first | rfl | omega | decide), yck (m_t88 s), r_M_refuses, e_M_refuses, ypI (m_t88 s) (by omega), ygR (m_t88 s) (m_r1 s), xB_s]
      try rw [show wr (- (-1)) = (1 : Int) from by first | rfl | decide]
      rw [yaIv (i := 1) (j := 1) (x := 0) (m_t89 s) (m_l89 s) rfl (by omega) (by first | rfl | (simp (disch := omega) only [up_na, up_ni, up_eq, cpy_n]; done) | (simp (disch := omega) only [up_na, up_ni, up_eq, cpy_n]; first | rfl | (exact congrFun (m_I s (by omega) (by omega)) _))), xB_s]
      try rw [show wr (- (-1)) = (1 : Int) from by first | rfl | decide]
      try rw [show wr (0 + 1) = (1 : Int) from by first | rfl | decide]
      rw [zSI (i := 1) (j := 1) (m_t89 s) (by omega) (m_l89 s) rfl (by omega), kI_o]
      exact M_fin (by first | rfl | omega | (rw [if_pos (by omega)]; done) | (rw [if_neg (by omega)]; done)) (by first | rfl | (simp (disch := omega) only [up_na, cpy_n]; done))
theorem pM_termsA (s : StM h I J) (w x : Int) (hw : w < 0) : ∃ I1 J1, rn (d + 8) 174 [iR (some 88), iI w, iI x] (st h I J) = some (oI (-1), st h I1 J1) ∧ I1 0 = I 0 := by
  rw [r_M_terms, e_M_terms, r_M_isTerm, e_M_isTerm, if_neg (by first | assumption | omega), if_neg (by first | assumption | omega), if_neg (by first | assumption | omega), xZ_0, kI_o, if_pos (by first | rfl | omega | decide), yck (m_t88 s), r_M_refuses, e_M_refuses, ypI (m_t88 s) (by omega), ygR (m_t88 s) (m_r1 s), xB_s]
  try rw [show wr (- (-1)) = (1 : Int) from by first | rfl | decide]
  rw [yaIv (i := 1) (j := 1) (x := 0) (m_t89 s) (m_l89 s) rfl (by omega) (by first | rfl | (simp (disch := omega) only [up_na, up_ni, up_eq, cpy_n]; done) | (simp (disch := omega) only [up_na, up_ni, up_eq, cpy_n]; first | rfl | (exact congrFun (m_I s (by omega) (by omega)) _))), xB_s]
  try rw [show wr (- (-1)) = (1 : Int) from by first | rfl | decide]
  try rw [show wr (0 + 1) = (1 : Int) from by first | rfl | decide]
  rw [zSI (i := 1) (j := 1) (m_t89 s) (by omega) (m_l89 s) rfl (by omega), kI_o]
  exact M_fin (by first | rfl | omega | (rw [if_pos (by omega)]; done) | (rw [if_neg (by omega)]; done)) (by first | rfl | (simp (disch := omega) only [up_na, cpy_n]; done))
theorem pM_termsB (s : StM h I J) (w x : Int) (hw : 2 < w) : ∃ I1 J1, rn (d + 8) 174 [iR (some 88), iI w, iI x] (st h I J) = some (oI (-1), st h I1 J1) ∧ I1 0 = I 0 := by
  rw [r_M_terms, e_M_terms, r_M_isTerm, e_M_isTerm, if_neg (by first | assumption | omega), if_neg (by first | assumption | omega), if_neg (by first | assumption | omega), xZ_0, kI_o, if_pos (by first | rfl | omega | decide), yck (m_t88 s), r_M_refuses, e_M_refuses, ypI (m_t88 s) (by omega), ygR (m_t88 s) (m_r1 s), xB_s]
  try rw [show wr (- (-1)) = (1 : Int) from by first | rfl | decide]
  rw [yaIv (i := 1) (j := 1) (x := 0) (m_t89 s) (m_l89 s) rfl (by omega) (by first | rfl | (simp (disch := omega) only [up_na, up_ni, up_eq, cpy_n]; done) | (simp (disch := omega) only [up_na, up_ni, up_eq, cpy_n]; first | rfl | (exact congrFun (m_I s (by omega) (by omega)) _))), xB_s]
  try rw [show wr (- (-1)) = (1 : Int) from by first | rfl | decide]
  try rw [show wr (0 + 1) = (1 : Int) from by first | rfl | decide]
  rw [zSI (i := 1) (j := 1) (m_t89 s) (by omega) (m_l89 s) rfl (by omega), kI_o]
  exact M_fin (by first | rfl | omega | (rw [if_pos (by omega)]; done) | (rw [if_neg (by omega)]; done)) (by first | rfl | (simp (disch := omega) only [up_na, cpy_n]; done))
theorem pM_feed (s : StM h I J) (x y z u v : Int) : ∃ I1 J1, rn (d + 8) 177 [iR (some 88), iI x, iI y, iI z, iI u, iI v] (st h I J) = some (oI (20), st h I1 J1) ∧ I1 0 = I 0 := by
  rw [r_M_feed, e_M_feed, ygIv (x := 0) (m_t88 s) (by first | rfl | (exact congrFun (m_I s (by omega) (by omega)) _))]
  try rw [show wr (0 + 20) = (20 : Int) from by first | rfl | decide]
  rw [if_pos (by first | rfl | omega | decide), ygR (m_t88 s) (m_r12 s), xB_s, zSI (i := 0) (j := 0) (m_t96 s) (by omega) (m_l96 s) rfl (by omega), ygR (m_t88 s) (m_r12 s), xB_s, zSI (i := 1) (j := 1) (m_t96 s) (by omega) (m_l96 s) rfl (by omega), ygR (m_t88 s) (m_r12 s), xB_s, zSI (i := 2) (j := 2) (m_t96 s) (by omega) (m_l96 s) rfl (by omega), ygR (m_t88 s) (m_r12 s), xB_s, zSI (i := 3) (j := 3) (m_t96 s) (by omega) (m_l96 s) rfl (by omega), ygR (m_t88 s) (m_r12 s), xB_s, zSI (i := 4) (j := 4) (m_t96 s) (by omega) (m_l96 s) rfl (by omega), e_M_feed_55, if_pos (by first | rfl | omega | decide), ygR (m_t88 s) (m_r11 s), ygIv (x := 0) (m_t88 s) (by first | rfl | (simp (disch := omega) only [up_na, up_ni, up_eq, cpy_n]; done) | (simp (disch := omega) only [up_na, up_ni, up_eq, cpy_n]; first | rfl | (exact congrFun (m_I s (by omega) (by omega)) _))), ygR (m_t88 s) (m_r12 s), xdI_ok (by decide)]
  try rw [show wr (Int.tdiv 0 4) = (0 : Int) from by first | rfl | decide]
  rw [xB_s, yaIv (i := 0) (j := 0) (x := x) (m_t96 s) (m_l96 s) rfl (by omega) (by first | rfl | (simp (disch := omega) only [up_na, up_ni, up_eq, cpy_n]; done) | (simp (disch := omega) only [up_na, up_ni, up_eq, cpy_n]; first | rfl | (exact congrFun (m_I s (by omega) (by omega)) _))), xmI_ok (by decide)]
  try rw [show wr (Int.tmod 0 4) = (0 : Int) from by first | rfl | decide]
  rw [xB_s]
  try rw [show wr (0 + 0) = (0 : Int) from by first | rfl | decide]
  rw [zSB2 (i := 0) (j := 0) (m_t95 s) (by omega) (m_l95 s) rfl (by omega)]
  try rw [show wr (0 + 1) = (1 : Int) from by first | rfl | decide]
  rw [e_M_feed_55, if_pos (by first | rfl | omega | decide), ygR (m_t88 s) (m_r11 s), ygIv (x := 0) (m_t88 s) (by first | rfl | (simp (disch := omega) only [up_na, up_ni, up_eq, cpy_n]; done) | (simp (disch := omega) only [up_na, up_ni, up_eq, cpy_n]; first | rfl | (exact congrFun (m_I s (by omega) (by omega)) _))), ygR (m_t88 s) (m_r12 s), xdI_ok (by decide)]
  try rw [show wr (Int.tdiv 1 4) = (0 : Int) from by first | rfl | decide]
  rw [xB_s, yaIv (i := 0) (j := 0) (x := x) (m_t96 s) (m_l96 s) rfl (by omega) (by first | rfl | (simp (disch := omega) only [up_na, up_ni, up_eq, cpy_n]; done) | (simp (disch := omega) only [up_na, up_ni, up_eq, cpy_n]; first | rfl | (exact congrFun (m_I s (by omega) (by omega)) _))), xmI_ok (by decide)]
  try rw [show wr (Int.tmod 1 4) = (1 : Int) from by first | rfl | decide]
  rw [xB_s]
  try rw [show wr (0 + 1) = (1 : Int) from by first | rfl | decide]
  rw [zSB2 (i := 1) (j := 1) (m_t95 s) (by omega) (m_l95 s) rfl (by omega)]
  try rw [show wr (1 + 1) = (2 : Int) from by first | rfl | decide]
  rw [e_M_feed_55, if_pos (by first | rfl | omega | decide), ygR (m_t88 s) (m_r11 s), ygIv (x := 0) (m_t88 s) (by first | rfl | (simp (disch := omega) only [up_na, up_ni, up_eq, cpy_n]; done) | (simp (disch := omega) only [up_na, up_ni, up_eq, cpy_n]; first | rfl | (exact congrFun (m_I s (by omega) (by omega)) _))), ygR (m_t88 s) (m_r12 s), xdI_ok (by decide)]
  try rw [show wr (Int.tdiv 2 4) = (0 : Int) from by first | rfl | decide]
  rw [xB_s, yaIv (i := 0) (j := 0) (x := x) (m_t96 s) (m_l96 s) rfl (by omega) (by first | rfl | (simp (disch := omega) only [up_na, up_ni, up_eq, cpy_n]; done) | (simp (disch := omega) only [up_na, up_ni, up_eq, cpy_n]; first | rfl | (exact congrFun (m_I s (by omega) (by omega)) _))), xmI_ok (by decide)]
  try rw [show wr (Int.tmod 2 4) = (2 : Int) from by first | rfl | decide]
  rw [xB_s]
  try rw [show wr (0 + 2) = (2 : Int) from by first | rfl | decide]
  rw [zSB2 (i := 2) (j := 2) (m_t95 s) (by omega) (m_l95 s) rfl (by omega)]
  try rw [show wr (2 + 1) = (3 : Int) from by first | rfl | decide]
  rw [e_M_feed_55, if_pos (by first | rfl | omega | decide), ygR (m_t88 s) (m_r11 s), ygIv (x := 0) (m_t88 s) (by first | rfl | (simp (disch := omega) only [up_na, up_ni, up_eq, cpy_n]; done) | (simp (disch := omega) only [up_na, up_ni, up_eq, cpy_n]; first | rfl | (exact congrFun (m_I s (by omega) (by omega)) _))), ygR (m_t88 s) (m_r12 s), xdI_ok (by decide)]
  try rw [show wr (Int.tdiv 3 4) = (0 : Int) from by first | rfl | decide]
  rw [xB_s, yaIv (i := 0) (j := 0) (x := x) (m_t96 s) (m_l96 s) rfl (by omega) (by first | rfl | (simp (disch := omega) only [up_na, up_ni, up_eq, cpy_n]; done) | (simp (disch := omega) only [up_na, up_ni, up_eq, cpy_n]; first | rfl | (exact congrFun (m_I s (by omega) (by omega)) _))), xmI_ok (by decide)]
  try rw [show wr (Int.tmod 3 4) = (3 : Int) from by first | rfl | decide]
  rw [xB_s]
  try rw [show wr (0 + 3) = (3 : Int) from by first | rfl | decide]
  rw [zSB2 (i := 3) (j := 3) (m_t95 s) (by omega) (m_l95 s) rfl (by omega)]
  try rw [show wr (3 + 1) = (4 : Int) from by first | rfl | decide]
  rw [e_M_feed_55, if_pos (by first | rfl | omega | decide), ygR (m_t88 s) (m_r11 s), ygIv (x := 0) (m_t88 s) (by first | rfl | (simp (disch := omega) only [up_na, up_ni, up_eq, cpy_n]; done) | (simp (disch := omega) only [up_na, up_ni, up_eq, cpy_n]; first | rfl | (exact congrFun (m_I s (by omega) (by omega)) _))), ygR (m_t88 s) (m_r12 s), xdI_ok (by decide)]
  try rw [show wr (Int.tdiv 4 4) = (1 : Int) from by first | rfl | decide]
  rw [xB_s, yaIv (i := 1) (j := 1) (x := y) (m_t96 s) (m_l96 s) rfl (by omega) (by first | rfl | (simp (disch := omega) only [up_na, up_ni, up_eq, cpy_n]; done) | (simp (disch := omega) only [up_na, up_ni, up_eq, cpy_n]; first | rfl | (exact congrFun (m_I s (by omega) (by omega)) _))), xmI_ok (by decide)]
  try rw [show wr (Int.tmod 4 4) = (0 : Int) from by first | rfl | decide]
  rw [xB_s]
  try rw [show wr (0 + 4) = (4 : Int) from by first | rfl | decide]
  rw [zSB2 (i := 4) (j := 4) (m_t95 s) (by omega) (m_l95 s) rfl (by omega)]
  try rw [show wr (4 + 1) = (5 : Int) from by first | rfl | decide]
  rw [e_M_feed_55, if_pos (by first | rfl | omega | decide), ygR (m_t88 s) (m_r11 s), ygIv (x := 0) (m_t88 s) (by first | rfl | (simp (disch := omega) only [up_na, up_ni, up_eq, cpy_n]; done) | (simp (disch := omega) only [up_na, up_ni, up_eq, cpy_n]; first | rfl | (exact congrFun (m_I s (by omega) (by omega)) _))), ygR (m_t88 s) (m_r12 s), xdI_ok (by decide)]
  try rw [show wr (Int.tdiv 5 4) = (1 : Int) from by first | rfl | decide]
  rw [xB_s, yaIv (i := 1) (j := 1) (x := y) (m_t96 s) (m_l96 s) rfl (by omega) (by first | rfl | (simp (disch := omega) only [up_na, up_ni, up_eq, cpy_n]; done) | (simp (disch := omega) only [up_na, up_ni, up_eq, cpy_n]; first | rfl | (exact congrFun (m_I s (by omega) (by omega)) _))), xmI_ok (by decide)]
  try rw [show wr (Int.tmod 5 4) = (1 : Int) from by first | rfl | decide]
  rw [xB_s]
  try rw [show wr (0 + 5) = (5 : Int) from by first | rfl | decide]
  rw [zSB2 (i := 5) (j := 5) (m_t95 s) (by omega) (m_l95 s) rfl (by omega)]
  try rw [show wr (5 + 1) = (6 : Int) from by first | rfl | decide]
  rw [e_M_feed_55, if_pos (by first | rfl | omega | decide), ygR (m_t88 s) (m_r11 s), ygIv (x := 0) (m_t88 s) (by first | rfl | (simp (disch := omega) only [up_na, up_ni, up_eq, cpy_n]; done) | (simp (disch := omega) only [up_na, up_ni, up_eq, cpy_n]; first | rfl | (exact congrFun (m_I s (by omega) (by omega)) _))), ygR (m_t88 s) (m_r12 s), xdI_ok (by decide)]
  try rw [show wr (Int.tdiv 6 4) = (1 : Int) from by first | rfl | decide]
  rw [xB_s, yaIv (i := 1) (j := 1) (x := y) (m_t96 s) (m_l96 s) rfl (by omega) (by first | rfl | (simp (disch := omega) only [up_na, up_ni, up_eq, cpy_n]; done) | (simp (disch := omega) only [up_na, up_ni, up_eq, cpy_n]; first | rfl | (exact congrFun (m_I s (by omega) (by omega)) _))), xmI_ok (by decide)]
  try rw [show wr (Int.tmod 6 4) = (2 : Int) from by first | rfl | decide]
  rw [xB_s]
  try rw [show wr (0 + 6) = (6 : Int) from by first | rfl | decide]
  rw [zSB2 (i := 6) (j := 6) (m_t95 s) (by omega) (m_l95 s) rfl (by omega)]
  try rw [show wr (6 + 1) = (7 : Int) from by first | rfl | decide]
  rw [e_M_feed_55, if_pos (by first | rfl | omega | decide), ygR (m_t88 s) (m_r11 s), ygIv (x := 0) (m_t88 s) (by first | rfl | (simp (disch := omega) only [up_na, up_ni, up_eq, cpy_n]; done) | (simp (disch := omega) only [up_na, up_ni, up_eq, cpy_n]; first | rfl | (exact congrFun (m_I s (by omega) (by omega)) _))), ygR (m_t88 s) (m_r12 s), xdI_ok (by decide)]
  try rw [show wr (Int.tdiv 7 4) = (1 : Int) from by first | rfl | decide]
  rw [xB_s, yaIv (i := 1) (j := 1) (x := y) (m_t96 s) (m_l96 s) rfl (by omega) (by first | rfl | (simp (disch := omega) only [up_na, up_ni, up_eq, cpy_n]; done) | (simp (disch := omega) only [up_na, up_ni, up_eq, cpy_n]; first | rfl | (exact congrFun (m_I s (by omega) (by omega)) _))), xmI_ok (by decide)]
  try rw [show wr (Int.tmod 7 4) = (3 : Int) from by first | rfl | decide]
  rw [xB_s]
  try rw [show wr (0 + 7) = (7 : Int) from by first | rfl | decide]
  rw [zSB2 (i := 7) (j := 7) (m_t95 s) (by omega) (m_l95 s) rfl (by omega)]
  try rw [show wr (7 + 1) = (8 : Int) from by first | rfl | decide]
  rw [e_M_feed_55, if_pos (by first | rfl | omega | decide), ygR (m_t88 s) (m_r11 s), ygIv (x := 0) (m_t88 s) (by first | rfl | (simp (disch := omega) only [up_na, up_ni, up_eq, cpy_n]; done) | (simp (disch := omega) only [up_na, up_ni, up_eq, cpy_n]; first | rfl | (exact congrFun (m_I s (by omega) (by omega)) _))), ygR (m_t88 s) (m_r12 s), xdI_ok (by decide)]
  try rw [show wr (Int.tdiv 8 4) = (2 : Int) from by first | rfl | decide]
  rw [xB_s, yaIv (i := 2) (j := 2) (x := z) (m_t96 s) (m_l96 s) rfl (by omega) (by first | rfl | (simp (disch := omega) only [up_na, up_ni, up_eq, cpy_n]; done) | (simp (disch := omega) only [up_na, up_ni, up_eq, cpy_n]; first | rfl | (exact congrFun (m_I s (by omega) (by omega)) _))), xmI_ok (by decide)]
  try rw [show wr (Int.tmod 8 4) = (0 : Int) from by first | rfl | decide]
  rw [xB_s]
  try rw [show wr (0 + 8) = (8 : Int) from by first | rfl | decide]
  rw [zSB2 (i := 8) (j := 8) (m_t95 s) (by omega) (m_l95 s) rfl (by omega)]
  try rw [show wr (8 + 1) = (9 : Int) from by first | rfl | decide]
  rw [e_M_feed_55, if_pos (by first | rfl | omega | decide), ygR (m_t88 s) (m_r11 s), ygIv (x := 0) (m_t88 s) (by first | rfl | (simp (disch := omega) only [up_na, up_ni, up_eq, cpy_n]; done) | (simp (disch := omega) only [up_na, up_ni, up_eq, cpy_n]; first | rfl | (exact congrFun (m_I s (by omega) (by omega)) _))), ygR (m_t88 s) (m_r12 s), xdI_ok (by decide)]
  try rw [show wr (Int.tdiv 9 4) = (2 : Int) from by first | rfl | decide]
  rw [xB_s, yaIv (i := 2) (j := 2) (x := z) (m_t96 s) (m_l96 s) rfl (by omega) (by first | rfl | (simp (disch := omega) only [up_na, up_ni, up_eq, cpy_n]; done) | (simp (disch := omega) only [up_na, up_ni, up_eq, cpy_n]; first | rfl | (exact congrFun (m_I s (by omega) (by omega)) _))), xmI_ok (by decide)]
  try rw [show wr (Int.tmod 9 4) = (1 : Int) from by first | rfl | decide]
  rw [xB_s]
  try rw [show wr (0 + 9) = (9 : Int) from by first | rfl | decide]
  rw [zSB2 (i := 9) (j := 9) (m_t95 s) (by omega) (m_l95 s) rfl (by omega)]
  try rw [show wr (9 + 1) = (10 : Int) from by first | rfl | decide]
  rw [e_M_feed_55, if_pos (by first | rfl | omega | decide), ygR (m_t88 s) (m_r11 s), ygIv (x := 0) (m_t88 s) (by first | rfl | (simp (disch := omega) only [up_na, up_ni, up_eq, cpy_n]; done) | (simp (disch := omega) only [up_na, up_ni, up_eq, cpy_n]; first | rfl | (exact congrFun (m_I s (by omega) (by omega)) _))), ygR (m_t88 s) (m_r12 s), xdI_ok (by decide)]
  try rw [show wr (Int.tdiv 10 4) = (2 : Int) from by first | rfl | decide]
  rw [xB_s, yaIv (i := 2) (j := 2) (x := z) (m_t96 s) (m_l96 s) rfl (by omega) (by first | rfl | (simp (disch := omega) only [up_na, up_ni, up_eq, cpy_n]; done) | (simp (disch := omega) only [up_na, up_ni, up_eq, cpy_n]; first | rfl | (exact congrFun (m_I s (by omega) (by omega)) _))), xmI_ok (by decide)]
  try rw [show wr (Int.tmod 10 4) = (2 : Int) from by first | rfl | decide]
  rw [xB_s]
  try rw [show wr (0 + 10) = (10 : Int) from by first | rfl | decide]
  rw [zSB2 (i := 10) (j := 10) (m_t95 s) (by omega) (m_l95 s) rfl (by omega)]
  try rw [show wr (10 + 1) = (11 : Int) from by first | rfl | decide]
  rw [e_M_feed_55, if_pos (by first | rfl | omega | decide), ygR (m_t88 s) (m_r11 s), ygIv (x := 0) (m_t88 s) (by first | rfl | (simp (disch := omega) only [up_na, up_ni, up_eq, cpy_n]; done) | (simp (disch := omega) only [up_na, up_ni, up_eq, cpy_n]; first | rfl | (exact congrFun (m_I s (by omega) (by omega)) _))), ygR (m_t88 s) (m_r12 s), xdI_ok (by decide)]
  try rw [show wr (Int.tdiv 11 4) = (2 : Int) from by first | rfl | decide]
  rw [xB_s, yaIv (i := 2) (j := 2) (x := z) (m_t96 s) (m_l96 s) rfl (by omega) (by first | rfl | (simp (disch := omega) only [up_na, up_ni, up_eq, cpy_n]; done) | (simp (disch := omega) only [up_na, up_ni, up_eq, cpy_n]; first | rfl | (exact congrFun (m_I s (by omega) (by omega)) _))), xmI_ok (by decide)]
  try rw [show wr (Int.tmod 11 4) = (3 : Int) from by first | rfl | decide]
  rw [xB_s]
  try rw [show wr (0 + 11) = (11 : Int) from by first | rfl | decide]
  rw [zSB2 (i := 11) (j := 11) (m_t95 s) (by omega) (m_l95 s) rfl (by omega)]
  try rw [show wr (11 + 1) = (12 : Int) from by first | rfl | decide]
  rw [e_M_feed_55, if_pos (by first | rfl | omega | decide), ygR (m_t88 s) (m_r11 s), ygIv (x := 0) (m_t88 s) (by first | rfl | (simp (disch := omega) only [up_na, up_ni, up_eq, cpy_n]; done) | (simp (disch := omega) only [up_na, up_ni, up_eq, cpy_n]; first | rfl | (exact congrFun (m_I s (by omega) (by omega)) _))), ygR (m_t88 s) (m_r12 s), xdI_ok (by decide)]
  try rw [show wr (Int.tdiv 12 4) = (3 : Int) from by first | rfl | decide]
  rw [xB_s, yaIv (i := 3) (j := 3) (x := u) (m_t96 s) (m_l96 s) rfl (by omega) (by first | rfl | (simp (disch := omega) only [up_na, up_ni, up_eq, cpy_n]; done) | (simp (disch := omega) only [up_na, up_ni, up_eq, cpy_n]; first | rfl | (exact congrFun (m_I s (by omega) (by omega)) _))), xmI_ok (by decide)]
  try rw [show wr (Int.tmod 12 4) = (0 : Int) from by first | rfl | decide]
  rw [xB_s]
  try rw [show wr (0 + 12) = (12 : Int) from by first | rfl | decide]
  rw [zSB2 (i := 12) (j := 12) (m_t95 s) (by omega) (m_l95 s) rfl (by omega)]
  try rw [show wr (12 + 1) = (13 : Int) from by first | rfl | decide]
  rw [e_M_feed_55, if_pos (by first | rfl | omega | decide), ygR (m_t88 s) (m_r11 s), ygIv (x := 0) (m_t88 s) (by first | rfl | (simp (disch := omega) only [up_na, up_ni, up_eq, cpy_n]; done) | (simp (disch := omega) only [up_na, up_ni, up_eq, cpy_n]; first | rfl | (exact congrFun (m_I s (by omega) (by omega)) _))), ygR (m_t88 s) (m_r12 s), xdI_ok (by decide)]
  try rw [show wr (Int.tdiv 13 4) = (3 : Int) from by first | rfl | decide]
  rw [xB_s, yaIv (i := 3) (j := 3) (x := u) (m_t96 s) (m_l96 s) rfl (by omega) (by first | rfl | (simp (disch := omega) only [up_na, up_ni, up_eq, cpy_n]; done) | (simp (disch := omega) only [up_na, up_ni, up_eq, cpy_n]; first | rfl | (exact congrFun (m_I s (by omega) (by omega)) _))), xmI_ok (by decide)]
  try rw [show wr (Int.tmod 13 4) = (1 : Int) from by first | rfl | decide]
  rw [xB_s]
  try rw [show wr (0 + 13) = (13 : Int) from by first | rfl | decide]
  rw [zSB2 (i := 13) (j := 13) (m_t95 s) (by omega) (m_l95 s) rfl (by omega)]
  try rw [show wr (13 + 1) = (14 : Int) from by first | rfl | decide]
  rw [e_M_feed_55, if_pos (by first | rfl | omega | decide), ygR (m_t88 s) (m_r11 s), ygIv (x := 0) (m_t88 s) (by first | rfl | (simp (disch := omega) only [up_na, up_ni, up_eq, cpy_n]; done) | (simp (disch := omega) only [up_na, up_ni, up_eq, cpy_n]; first | rfl | (exact congrFun (m_I s (by omega) (by omega)) _))), ygR (m_t88 s) (m_r12 s), xdI_ok (by decide)]
  try rw [show wr (Int.tdiv 14 4) = (3 : Int) from by first | rfl | decide]
  rw [xB_s, yaIv (i := 3) (j := 3) (x := u) (m_t96 s) (m_l96 s) rfl (by omega) (by first | rfl | (simp (disch := omega) only [up_na, up_ni, up_eq, cpy_n]; done) | (simp (disch := omega) only [up_na, up_ni, up_eq, cpy_n]; first | rfl | (exact congrFun (m_I s (by omega) (by omega)) _))), xmI_ok (by decide)]
  try rw [show wr (Int.tmod 14 4) = (2 : Int) from by first | rfl | decide]
  rw [xB_s]
  try rw [show wr (0 + 14) = (14 : Int) from by first | rfl | decide]
  rw [zSB2 (i := 14) (j := 14) (m_t95 s) (by omega) (m_l95 s) rfl (by omega)]
  try rw [show wr (14 + 1) = (15 : Int) from by first | rfl | decide]
  rw [e_M_feed_55, if_pos (by first | rfl | omega | decide), ygR (m_t88 s) (m_r11 s), ygIv (x := 0) (m_t88 s) (by first | rfl | (simp (disch := omega) only [up_na, up_ni, up_eq, cpy_n]; done) | (simp (disch := omega) only [up_na, up_ni, up_eq, cpy_n]; first | rfl | (exact congrFun (m_I s (by omega) (by omega)) _))), ygR (m_t88 s) (m_r12 s), xdI_ok (by decide)]
  try rw [show wr (Int.tdiv 15 4) = (3 : Int) from by first | rfl | decide]
  rw [xB_s, yaIv (i := 3) (j := 3) (x := u) (m_t96 s) (m_l96 s) rfl (by omega) (by first | rfl | (simp (disch := omega) only [up_na, up_ni, up_eq, cpy_n]; done) | (simp (disch := omega) only [up_na, up_ni, up_eq, cpy_n]; first | rfl | (exact congrFun (m_I s (by omega) (by omega)) _))), xmI_ok (by decide)]
  try rw [show wr (Int.tmod 15 4) = (3 : Int) from by first | rfl | decide]
  rw [xB_s]
  try rw [show wr (0 + 15) = (15 : Int) from by first | rfl | decide]
  rw [zSB2 (i := 15) (j := 15) (m_t95 s) (by omega) (m_l95 s) rfl (by omega)]
  try rw [show wr (15 + 1) = (16 : Int) from by first | rfl | decide]
  rw [e_M_feed_55, if_pos (by first | rfl | omega | decide), ygR (m_t88 s) (m_r11 s), ygIv (x := 0) (m_t88 s) (by first | rfl | (simp (disch := omega) only [up_na, up_ni, up_eq, cpy_n]; done) | (simp (disch := omega) only [up_na, up_ni, up_eq, cpy_n]; first | rfl | (exact congrFun (m_I s (by omega) (by omega)) _))), ygR (m_t88 s) (m_r12 s), xdI_ok (by decide)]
  try rw [show wr (Int.tdiv 16 4) = (4 : Int) from by first | rfl | decide]
  rw [xB_s, yaIv (i := 4) (j := 4) (x := v) (m_t96 s) (m_l96 s) rfl (by omega) (by first | rfl | (simp (disch := omega) only [up_na, up_ni, up_eq, cpy_n]; done) | (simp (disch := omega) only [up_na, up_ni, up_eq, cpy_n]; first | rfl | (exact congrFun (m_I s (by omega) (by omega)) _))), xmI_ok (by decide)]
  try rw [show wr (Int.tmod 16 4) = (0 : Int) from by first | rfl | decide]
  rw [xB_s]
  try rw [show wr (0 + 16) = (16 : Int) from by first | rfl | decide]
  rw [zSB2 (i := 16) (j := 16) (m_t95 s) (by omega) (m_l95 s) rfl (by omega)]
  try rw [show wr (16 + 1) = (17 : Int) from by first | rfl | decide]
  rw [e_M_feed_55, if_pos (by first | rfl | omega | decide), ygR (m_t88 s) (m_r11 s), ygIv (x := 0) (m_t88 s) (by first | rfl | (simp (disch := omega) only [up_na, up_ni, up_eq, cpy_n]; done) | (simp (disch := omega) only [up_na, up_ni, up_eq, cpy_n]; first | rfl | (exact congrFun (m_I s (by omega) (by omega)) _))), ygR (m_t88 s) (m_r12 s), xdI_ok (by decide)]
  try rw [show wr (Int.tdiv 17 4) = (4 : Int) from by first | rfl | decide]
  rw [xB_s, yaIv (i := 4) (j := 4) (x := v) (m_t96 s) (m_l96 s) rfl (by omega) (by first | rfl | (simp (disch := omega) only [up_na, up_ni, up_eq, cpy_n]; done) | (simp (disch := omega) only [up_na, up_ni, up_eq, cpy_n]; first | rfl | (exact congrFun (m_I s (by omega) (by omega)) _))), xmI_ok (by decide)]
  try rw [show wr (Int.tmod 17 4) = (1 : Int) from by first | rfl | decide]
  rw [xB_s]
  try rw [show wr (0 + 17) = (17 : Int) from by first | rfl | decide]
  rw [zSB2 (i := 17) (j := 17) (m_t95 s) (by omega) (m_l95 s) rfl (by omega)]
  try rw [show wr (17 + 1) = (18 : Int) from by first | rfl | decide]
  rw [e_M_feed_55, if_pos (by first | rfl | omega | decide), ygR (m_t88 s) (m_r11 s), ygIv (x := 0) (m_t88 s) (by first | rfl | (simp (disch := omega) only [up_na, up_ni, up_eq, cpy_n]; done) | (simp (disch := omega) only [up_na, up_ni, up_eq, cpy_n]; first | rfl | (exact congrFun (m_I s (by omega) (by omega)) _))), ygR (m_t88 s) (m_r12 s), xdI_ok (by decide)]
  try rw [show wr (Int.tdiv 18 4) = (4 : Int) from by first | rfl | decide]
  rw [xB_s, yaIv (i := 4) (j := 4) (x := v) (m_t96 s) (m_l96 s) rfl (by omega) (by first | rfl | (simp (disch := omega) only [up_na, up_ni, up_eq, cpy_n]; done) | (simp (disch := omega) only [up_na, up_ni, up_eq, cpy_n]; first | rfl | (exact congrFun (m_I s (by omega) (by omega)) _))), xmI_ok (by decide)]
  try rw [show wr (Int.tmod 18 4) = (2 : Int) from by first | rfl | decide]
  rw [xB_s]
  try rw [show wr (0 + 18) = (18 : Int) from by first | rfl | decide]
  rw [zSB2 (i := 18) (j := 18) (m_t95 s) (by omega) (m_l95 s) rfl (by omega)]
  try rw [show wr (18 + 1) = (19 : Int) from by first | rfl | decide]
  rw [e_M_feed_55, if_pos (by first | rfl | omega | decide), ygR (m_t88 s) (m_r11 s), ygIv (x := 0) (m_t88 s) (by first | rfl | (simp (disch := omega) only [up_na, up_ni, up_eq, cpy_n]; done) | (simp (disch := omega) only [up_na, up_ni, up_eq, cpy_n]; first | rfl | (exact congrFun (m_I s (by omega) (by omega)) _))), ygR (m_t88 s) (m_r12 s), xdI_ok (by decide)]
  try rw [show wr (Int.tdiv 19 4) = (4 : Int) from by first | rfl | decide]
  rw [xB_s, yaIv (i := 4) (j := 4) (x := v) (m_t96 s) (m_l96 s) rfl (by omega) (by first | rfl | (simp (disch := omega) only [up_na, up_ni, up_eq, cpy_n]; done) | (simp (disch := omega) only [up_na, up_ni, up_eq, cpy_n]; first | rfl | (exact congrFun (m_I s (by omega) (by omega)) _))), xmI_ok (by decide)]
  try rw [show wr (Int.tmod 19 4) = (3 : Int) from by first | rfl | decide]
  rw [xB_s]
  try rw [show wr (0 + 19) = (19 : Int) from by first | rfl | decide]
  rw [zSB2 (i := 19) (j := 19) (m_t95 s) (by omega) (m_l95 s) rfl (by omega)]
  try rw [show wr (19 + 1) = (20 : Int) from by first | rfl | decide]
  rw [e_M_feed_55, if_neg (by first | rfl | omega | decide), ygIv (x := 0) (m_t88 s) (by first | rfl | (simp (disch := omega) only [up_na, up_ni, up_eq, cpy_n]; done) | (simp (disch := omega) only [up_na, up_ni, up_eq, cpy_n]; first | rfl | (exact congrFun (m_I s (by omega) (by omega)) _)))]
  try rw [show wr (0 + 20) = (20 : Int) from by first | rfl | decide]
  rw [ypI (m_t88 s) (by omega), ygIv (x := 20) (m_t88 s) (by first | rfl | (simp (disch := omega) only [up_na, up_ni, up_eq, cpy_n]; done) | (simp (disch := omega) only [up_na, up_ni, up_eq, cpy_n]; first | rfl | (exact congrFun (m_I s (by omega) (by omega)) _)))]
  exact M_fin (by first | rfl | omega | (rw [if_pos (by omega)]; done) | (rw [if_neg (by omega)]; done)) (by first | rfl | (simp (disch := omega) only [up_na, cpy_n]; done))
theorem pM_count0 (s : StM h I J) : ∃ I1 J1, rn (d + 8) 289 [iR (some 88), iI 0] (st h I J) = some (oI (0), st h I1 J1) ∧ I1 0 = I 0 := by
  rw [r_M_count, e_M_count, if_pos (by first | rfl | omega | decide), yck (m_t88 s), r_M_townMany, e_M_townMany, ygR (m_t88 s) (m_r2 s), xB_s, yaIv (i := 183) (j := 183) (x := 0) (m_t90 s) (m_l90 s) rfl (by omega) (by first | rfl | (exact congrFun (m_I s (by omega) (by omega)) _)), kI_o]
  exact M_fin (by first | rfl | omega | (rw [if_pos (by omega)]; done) | (rw [if_neg (by omega)]; done)) rfl
theorem pM_count1 (s : StM h I J) : ∃ I1 J1, rn (d + 8) 289 [iR (some 88), iI 1] (st h I J) = some (oI (0), st h I1 J1) ∧ I1 0 = I 0 := by
  rw [r_M_count, e_M_count, if_neg (by first | rfl | omega | decide), if_pos (by first | rfl | omega | decide), yck (m_t88 s), r_M_homeMany, e_M_homeMany, e_M_homeMany_4, yck (m_t88 s), r_M_townMany, e_M_townMany, ygR (m_t88 s) (m_r2 s), xB_s, yaIv (i := 183) (j := 183) (x := 0) (m_t90 s) (m_l90 s) rfl (by omega) (by first | rfl | (exact congrFun (m_I s (by omega) (by omega)) _)), kI_o, if_neg (by first | rfl | omega | decide), kI_o]
  exact M_fin (by first | rfl | omega | (rw [if_pos (by omega)]; done) | (rw [if_neg (by omega)]; done)) rfl
theorem pM_count2 (s : StM h I J) : ∃ I1 J1, rn (d + 8) 289 [iR (some 88), iI 2] (st h I J) = some (oI (0), st h I1 J1) ∧ I1 0 = I 0 := by
  rw [r_M_count, e_M_count, if_neg (by first | rfl | omega | decide), if_neg (by first | rfl | omega | decide), if_pos (by first | rfl | omega | decide), yck (m_t88 s), r_M_roadMany, e_M_roadMany, e_M_roadMany_4, yck (m_t88 s), r_M_townMany, e_M_townMany, ygR (m_t88 s) (m_r2 s), xB_s, yaIv (i := 183) (j := 183) (x := 0) (m_t90 s) (m_l90 s) rfl (by omega) (by first | rfl | (exact congrFun (m_I s (by omega) (by omega)) _)), kI_o, if_neg (by first | rfl | omega | decide), kI_o]
  exact M_fin (by first | rfl | omega | (rw [if_pos (by omega)]; done) | (rw [if_neg (by omega)]; done)) rfl
theorem pM_count3 (s : StM h I J) : ∃ I1 J1, rn (d + 8) 289 [iR (some 88), iI 3] (st h I J) = some (oI (0), st h I1 J1) ∧ I1 0 = I 0 := by
  rw [r_M_count, e_M_count, if_neg (by first | rfl | omega | decide), if_neg (by first | rfl | omega | decide), if_neg (by first | rfl | omega | decide), if_pos (by first | rfl | omega | decide), yck (m_t88 s), r_M_roadMany, e_M_roadMany, e_M_roadMany_4, yck (m_t88 s), r_M_townMany, e_M_townMany, ygR (m_t88 s) (m_r2 s), xB_s, yaIv (i := 183) (j := 183) (x := 0) (m_t90 s) (m_l90 s) rfl (by omega) (by first | rfl | (exact congrFun (m_I s (by omega) (by omega)) _)), kI_o, if_neg (by first | rfl | omega | decide), kI_o]
  exact M_fin (by first | rfl | omega | (rw [if_pos (by omega)]; done) | (rw [if_neg (by omega)]; done)) rfl
theorem pM_count4 (s : StM h I J) : ∃ I1 J1, rn (d + 8) 289 [iR (some 88), iI 4] (st h I J) = some (oI (0), st h I1 J1) ∧ I1 0 = I 0 := by
  rw [r_M_count, e_M_count, if_neg (by first | rfl | omega | decide), if_neg (by first | rfl | omega | decide), if_neg (by first | rfl | omega | decide), if_neg (by first | rfl | omega | decide), if_pos (by first | rfl | omega | decide), ygR (m_t88 s) (m_r2 s), xB_s, yaIv (i := 184) (j := 184) (x := 0) (m_t90 s) (m_l90 s) rfl (by omega) (by first | rfl | (exact congrFun (m_I s (by omega) (by omega)) _))]
  exact M_fin (by first | rfl | omega | (rw [if_pos (by omega)]; done) | (rw [if_neg (by omega)]; done)) rfl
theorem pM_count5 (s : StM h I J) : ∃ I1 J1, rn (d + 8) 289 [iR (some 88), iI 5] (st h I J) = some (oI (0), st h I1 J1) ∧ I1 0 = I 0 := by
  rw [r_M_count, e_M_count, if_neg (by first | rfl | omega | decide), if_neg (by first | rfl | omega | decide), if_neg (by first | rfl | omega | decide), if_neg (by first | rfl | omega | decide), if_neg (by first | rfl | omega | decide), if_pos (by first | rfl | omega | decide), ygR (m_t88 s) (m_r2 s), xB_s, yaIv (i := 185) (j := 185) (x := 0) (m_t90 s) (m_l90 s) rfl (by omega) (by first | rfl | (exact congrFun (m_I s (by omega) (by omega)) _))]
  exact M_fin (by first | rfl | omega | (rw [if_pos (by omega)]; done) | (rw [if_neg (by omega)]; done)) rfl
theorem pM_count6 (s : StM h I J) : ∃ I1 J1, rn (d + 8) 289 [iR (some 88), iI 6] (st h I J) = some (oI (0), st h I1 J1) ∧ I1 0 = I 0 := by
  rw [r_M_count, e_M_count, if_neg (by first | rfl | omega | decide), if_neg (by first | rfl | omega | decide), if_neg (by first | rfl | omega | decide), if_neg (by first | rfl | omega | decide), if_neg (by first | rfl | omega | decide), if_neg (by first | rfl | omega | decide), if_pos (by first | rfl | omega | decide), ygIv (x := 0) (m_t88 s) (by first | rfl | (exact congrFun (m_I s (by omega) (by omega)) _))]
  exact M_fin (by first | rfl | omega | (rw [if_pos (by omega)]; done) | (rw [if_neg (by omega)]; done)) rfl
theorem pM_count7 (s : StM h I J) : ∃ I1 J1, rn (d + 8) 289 [iR (some 88), iI 7] (st h I J) = some (oI (0), st h I1 J1) ∧ I1 0 = I 0 := by
  rw [r_M_count, e_M_count, if_neg (by first | rfl | omega | decide), if_neg (by first | rfl | omega | decide), if_neg (by first | rfl | omega | decide), if_neg (by first | rfl | omega | decide), if_neg (by first | rfl | omega | decide), if_neg (by first | rfl | omega | decide), if_neg (by first | rfl | omega | decide), if_pos (by first | rfl | omega | decide), ygIv (x := 0) (m_t88 s) (by first | rfl | (exact congrFun (m_I s (by omega) (by omega)) _))]
  exact M_fin (by first | rfl | omega | (rw [if_pos (by omega)]; done) | (rw [if_neg (by omega)]; done)) rfl
theorem pM_count8 (s : StM h I J) : ∃ I1 J1, rn (d + 8) 289 [iR (some 88), iI 8] (st h I J) = some (oI (0), st h I1 J1) ∧ I1 0 = I 0 := by
  rw [r_M_count, e_M_count, if_neg (by first | rfl | omega | decide), if_neg (by first | rfl | omega | decide), if_neg (by first | rfl | omega | decide), if_neg (by first | rfl | omega | decide), if_neg (by first | rfl | omega | decide), if_neg (by first | rfl | omega | decide), if_neg (by first | rfl | omega | decide), if_neg (by first | rfl | omega | decide), if_pos (by first | rfl | omega | decide), ygR (m_t88 s) (m_r1 s), xB_s]
  try rw [show wr (8 - 7) = (1 : Int) from by first | rfl | decide]
  rw [yaIv (i := 1) (j := 1) (x := 0) (m_t89 s) (m_l89 s) rfl (by omega) (by first | rfl | (exact congrFun (m_I s (by omega) (by omega)) _))]
  exact M_fin (by first | rfl | omega | (rw [if_pos (by omega)]; done) | (rw [if_neg (by omega)]; done)) rfl
theorem pM_count9 (s : StM h I J) : ∃ I1 J1, rn (d + 8) 289 [iR (some 88), iI 9] (st h I J) = some (oI (0), st h I1 J1) ∧ I1 0 = I 0 := by
  rw [r_M_count, e_M_count, if_neg (by first | rfl | omega | decide), if_neg (by first | rfl | omega | decide), if_neg (by first | rfl | omega | decide), if_neg (by first | rfl | omega | decide), if_neg (by first | rfl | omega | decide), if_neg (by first | rfl | omega | decide), if_neg (by first | rfl | omega | decide), if_neg (by first | rfl | omega | decide), if_neg (by first | rfl | omega | decide), if_pos (by first | rfl | omega | decide), ygR (m_t88 s) (m_r1 s), xB_s]
  try rw [show wr (9 - 7) = (2 : Int) from by first | rfl | decide]
  rw [yaIv (i := 2) (j := 2) (x := 0) (m_t89 s) (m_l89 s) rfl (by omega) (by first | rfl | (exact congrFun (m_I s (by omega) (by omega)) _))]
  exact M_fin (by first | rfl | omega | (rw [if_pos (by omega)]; done) | (rw [if_neg (by omega)]; done)) rfl
theorem pM_count10 (s : StM h I J) : ∃ I1 J1, rn (d + 8) 289 [iR (some 88), iI 10] (st h I J) = some (oI (0), st h I1 J1) ∧ I1 0 = I 0 := by
  rw [r_M_count, e_M_count, if_neg (by first | rfl | omega | decide), if_neg (by first | rfl | omega | decide), if_neg (by first | rfl | omega | decide), if_neg (by first | rfl | omega | decide), if_neg (by first | rfl | omega | decide), if_neg (by first | rfl | omega | decide), if_neg (by first | rfl | omega | decide), if_neg (by first | rfl | omega | decide), if_neg (by first | rfl | omega | decide), if_neg (by first | rfl | omega | decide), if_pos (by first | rfl | omega | decide), ygR (m_t88 s) (m_r1 s), xB_s]
  try rw [show wr (10 - 7) = (3 : Int) from by first | rfl | decide]
  rw [yaIv (i := 3) (j := 3) (x := 0) (m_t89 s) (m_l89 s) rfl (by omega) (by first | rfl | (exact congrFun (m_I s (by omega) (by omega)) _))]
  exact M_fin (by first | rfl | omega | (rw [if_pos (by omega)]; done) | (rw [if_neg (by omega)]; done)) rfl
theorem pM_count11 (s : StM h I J) : ∃ I1 J1, rn (d + 8) 289 [iR (some 88), iI 11] (st h I J) = some (oI (0), st h I1 J1) ∧ I1 0 = I 0 := by
  rw [r_M_count, e_M_count, if_neg (by first | rfl | omega | decide), if_neg (by first | rfl | omega | decide), if_neg (by first | rfl | omega | decide), if_neg (by first | rfl | omega | decide), if_neg (by first | rfl | omega | decide), if_neg (by first | rfl | omega | decide), if_neg (by first | rfl | omega | decide), if_neg (by first | rfl | omega | decide), if_neg (by first | rfl | omega | decide), if_neg (by first | rfl | omega | decide), if_neg (by first | rfl | omega | decide), if_pos (by first | rfl | omega | decide), ygR (m_t88 s) (m_r1 s), xB_s, yaIv (i := 5) (j := 5) (x := 0) (m_t89 s) (m_l89 s) rfl (by omega) (by first | rfl | (exact congrFun (m_I s (by omega) (by omega)) _))]
  exact M_fin (by first | rfl | omega | (rw [if_pos (by omega)]; done) | (rw [if_neg (by omega)]; done)) rfl
theorem pM_count12 (s : StM h I J) : ∃ I1 J1, rn (d + 8) 289 [iR (some 88), iI 12] (st h I J) = some (oI (0), st h I1 J1) ∧ I1 0 = I 0 := by
  rw [r_M_count, e_M_count, if_neg (by first | rfl | omega | decide), if_neg (by first | rfl | omega | decide), if_neg (by first | rfl | omega | decide), if_neg (by first | rfl | omega | decide), if_neg (by first | rfl | omega | decide), if_neg (by first | rfl | omega | decide), if_neg (by first | rfl | omega | decide), if_neg (by first | rfl | omega | decide), if_neg (by first | rfl | omega | decide), if_neg (by first | rfl | omega | decide), if_neg (by first | rfl | omega | decide), if_neg (by first | rfl | omega | decide), if_pos (by first | rfl | omega | decide), ygR (m_t88 s) (m_r1 s), xB_s, yaIv (i := 6) (j := 6) (x := 0) (m_t89 s) (m_l89 s) rfl (by omega) (by first | rfl | (exact congrFun (m_I s (by omega) (by omega)) _))]
  exact M_fin (by first | rfl | omega | (rw [if_pos (by omega)]; done) | (rw [if_neg (by omega)]; done)) rfl
theorem pM_count13 (s : StM h I J) : ∃ I1 J1, rn (d + 8) 289 [iR (some 88), iI 13] (st h I J) = some (oI (-1), st h I1 J1) ∧ I1 0 = I 0 := by
  rw [r_M_count, e_M_count, if_neg (by first | rfl | omega | decide), if_neg (by first | rfl | omega | decide), if_neg (by first | rfl | omega | decide), if_neg (by first | rfl | omega | decide), if_neg (by first | rfl | omega | decide), if_neg (by first | rfl | omega | decide), if_neg (by first | rfl | omega | decide), if_neg (by first | rfl | omega | decide), if_neg (by first | rfl | omega | decide), if_neg (by first | rfl | omega | decide), if_neg (by first | rfl | omega | decide), if_neg (by first | rfl | omega | decide), if_neg (by first | rfl | omega | decide), if_pos (by first | rfl | omega | decide), ygR (m_t88 s) (m_r2 s), xB_s, yaIv (i := 186) (j := 186) (x := (-1)) (m_t90 s) (m_l90 s) rfl (by omega) (by first | rfl | (exact congrFun (m_I s (by omega) (by omega)) _))]
  exact M_fin (by first | rfl | omega | (rw [if_pos (by omega)]; done) | (rw [if_neg (by omega)]; done)) rfl
theorem pM_count14 (s : StM h I J) : ∃ I1 J1, rn (d + 8) 289 [iR (some 88), iI 14] (st h I J) = some (oI (0), st h I1 J1) ∧ I1 0 = I 0 := by
  rw [r_M_count, e_M_count, if_neg (by first | rfl | omega | decide), if_neg (by first | rfl | omega | decide), if_neg (by first | rfl | omega | decide), if_neg (by first | rfl | omega | decide), if_neg (by first | rfl | omega | decide), if_neg (by first | rfl | omega | decide), if_neg (by first | rfl | omega | decide), if_neg (by first | rfl | omega | decide), if_neg (by first | rfl | omega | decide), if_neg (by first | rfl | omega | decide), if_neg (by first | rfl | omega | decide), if_neg (by first | rfl | omega | decide), if_neg (by first | rfl | omega | decide), if_neg (by first | rfl | omega | decide), if_pos (by first | rfl | omega | decide), ygR (m_t88 s) (m_r2 s)]
  try rw [show wr (14 - 14) = (0 : Int) from by first | rfl | decide]
  rw [r_M_termAt, e_M_termAt, if_pos (by first | rfl | omega | decide), kI_o, xB_s, yaIv (i := 112) (j := 112) (x := 0) (m_t90 s) (m_l90 s) rfl (by omega) (by first | rfl | (exact congrFun (m_I s (by omega) (by omega)) _))]
  exact M_fin (by first | rfl | omega | (rw [if_pos (by omega)]; done) | (rw [if_neg (by omega)]; done)) rfl
theorem pM_count15 (s : StM h I J) : ∃ I1 J1, rn (d + 8) 289 [iR (some 88), iI 15] (st h I J) = some (oI (1), st h I1 J1) ∧ I1 0 = I 0 := by
  rw [r_M_count, e_M_count, if_neg (by first | rfl | omega | decide), if_neg (by first | rfl | omega | decide), if_neg (by first | rfl | omega | decide), if_neg (by first | rfl | omega | decide), if_neg (by first | rfl | omega | decide), if_neg (by first | rfl | omega | decide), if_neg (by first | rfl | omega | decide), if_neg (by first | rfl | omega | decide), if_neg (by first | rfl | omega | decide), if_neg (by first | rfl | omega | decide), if_neg (by first | rfl | omega | decide), if_neg (by first | rfl | omega | decide), if_neg (by first | rfl | omega | decide), if_neg (by first | rfl | omega | decide), if_neg (by first | rfl | omega | decide), if_pos (by first | rfl | omega | decide), ygR (m_t88 s) (m_r2 s)]
  try rw [show wr (15 - 14) = (1 : Int) from by first | rfl | decide]
  rw [r_M_termAt, e_M_termAt, if_neg (by first | rfl | omega | decide), if_pos (by first | rfl | omega | decide), kI_o, xB_s, yaIv (i := 181) (j := 181) (x := 1) (m_t90 s) (m_l90 s) rfl (by omega) (by first | rfl | (exact congrFun (m_I s (by omega) (by omega)) _))]
  exact M_fin (by first | rfl | omega | (rw [if_pos (by omega)]; done) | (rw [if_neg (by omega)]; done)) rfl
theorem pM_count16 (s : StM h I J) : ∃ I1 J1, rn (d + 8) 289 [iR (some 88), iI 16] (st h I J) = some (oI (0), st h I1 J1) ∧ I1 0 = I 0 := by
  rw [r_M_count, e_M_count, if_neg (by first | rfl | omega | decide), if_neg (by first | rfl | omega | decide), if_neg (by first | rfl | omega | decide), if_neg (by first | rfl | omega | decide), if_neg (by first | rfl | omega | decide), if_neg (by first | rfl | omega | decide), if_neg (by first | rfl | omega | decide), if_neg (by first | rfl | omega | decide), if_neg (by first | rfl | omega | decide), if_neg (by first | rfl | omega | decide), if_neg (by first | rfl | omega | decide), if_neg (by first | rfl | omega | decide), if_neg (by first | rfl | omega | decide), if_neg (by first | rfl | omega | decide), if_neg (by first | rfl | omega | decide), if_neg (by first | rfl | omega | decide), if_pos (by first | rfl | omega | decide), ygR (m_t88 s) (m_r2 s)]
  try rw [show wr (16 - 14) = (2 : Int) from by first | rfl | decide]
  rw [r_M_termAt, e_M_termAt, if_neg (by first | rfl | omega | decide), if_neg (by first | rfl | omega | decide), kI_o, xB_s, yaIv (i := 182) (j := 182) (x := 0) (m_t90 s) (m_l90 s) rfl (by omega) (by first | rfl | (exact congrFun (m_I s (by omega) (by omega)) _))]
  exact M_fin (by first | rfl | omega | (rw [if_pos (by omega)]; done) | (rw [if_neg (by omega)]; done)) rfl
theorem pM_countA (s : StM h I J) (w : Int) (hw : w < 0) : ∃ I1 J1, rn (d + 8) 289 [iR (some 88), iI w] (st h I J) = some (oI (-1), st h I1 J1) ∧ I1 0 = I 0 := by
  rw [r_M_count, e_M_count, if_neg (by first | assumption | omega), if_neg (by first | assumption | omega), if_neg (by first | assumption | omega), if_neg (by first | assumption | omega), if_neg (by first | assumption | omega), if_neg (by first | assumption | omega), if_neg (by first | assumption | omega), if_neg (by first | assumption | omega), if_neg (by first | assumption | omega), if_neg (by first | assumption | omega), if_neg (by first | assumption | omega), if_neg (by first | assumption | omega), if_neg (by first | assumption | omega), if_neg (by first | assumption | omega), if_neg (by first | assumption | omega), if_neg (by first | assumption | omega), if_neg (by first | assumption | omega), e_M_count_181]
  exact M_fin (by first | rfl | omega | (rw [if_pos (by omega)]; done) | (rw [if_neg (by omega)]; done)) rfl
theorem pM_countB (s : StM h I J) (w : Int) (hw : 16 < w) : ∃ I1 J1, rn (d + 8) 289 [iR (some 88), iI w] (st h I J) = some (oI (-1), st h I1 J1) ∧ I1 0 = I 0 := by
  rw [r_M_count, e_M_count, if_neg (by first | assumption | omega), if_neg (by first | assumption | omega), if_neg (by first | assumption | omega), if_neg (by first | assumption | omega), if_neg (by first | assumption | omega), if_neg (by first | assumption | omega), if_neg (by first | assumption | omega), if_neg (by first | assumption | omega), if_neg (by first | assumption | omega), if_neg (by first | assumption | omega), if_neg (by first | assumption | omega), if_neg (by first | assumption | omega), if_neg (by first | assumption | omega), if_neg (by first | assumption | omega), if_neg (by first | assumption | omega), if_neg (by first | assumption | omega), if_neg (by first | assumption | omega), e_M_count_181]
  exact M_fin (by first | rfl | omega | (rw [if_pos (by omega)]; done) | (rw [if_neg (by omega)]; done)) rfl
end P40
