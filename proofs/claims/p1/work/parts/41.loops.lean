/-! Loops of the reference that copy and fill (by program, wip/whole/gen41.py) -/
theorem cpy_step (I : Nat → Nat → Int) {a b : Nat} (i j k : Nat) (z : a ≠ b) : cpy (up I b j (I a i)) a (i + 1) b (j + 1) k = cpy I a i b j (k + 1) := by
  funext q x
  by_cases c : q = b ∧ j ≤ x ∧ x < j + (k + 1)
  · rw [show cpy I a i b j (k + 1) q x = I a (i + (x - j)) from if_pos c]
    by_cases y : x = j
    · rw [show cpy (up I b j (I a i)) a (i + 1) b (j + 1) k q x = up I b j (I a i) q x from if_neg (by omega), c.1, y, up_eq, Nat.sub_self]
      rfl
    · rw [show cpy (up I b j (I a i)) a (i + 1) b (j + 1) k q x = up I b j (I a i) a (i + 1 + (x - (j + 1))) from if_pos ⟨c.1, by omega, by omega⟩, up_na z, show i + 1 + (x - (j + 1)) = i + (x - j) by omega]
  · rw [show cpy I a i b j (k + 1) q x = I q x from if_neg c, show cpy (up I b j (I a i)) a (i + 1) b (j + 1) k q x = up I b j (I a i) q x from if_neg (by omega)]
    by_cases y : q = b
    · rw [up_ni (by omega)]
    · rw [up_na y]
theorem cpy_0 (I : Nat → Nat → Int) (a i b j : Nat) : cpy I a i b j 0 = I := by
  funext q x
  unfold cpy
  rw [if_neg (by omega)]
/-- v from i on up to n in row b -/
def fillI (I : Nat → Nat → Int) (b i n : Nat) (v : Int) : Nat → Nat → Int := fun q x => if q = b ∧ i ≤ x ∧ x < n then v else I q x
theorem fillI_0 (I : Nat → Nat → Int) (b n : Nat) (v : Int) : fillI I b n n v = I := by
  funext q x
  unfold fillI
  rw [if_neg (by omega)]
theorem fillI_step (I : Nat → Nat → Int) {b i n : Nat} (v : Int) (hi : i < n) : fillI (up I b i v) b (i + 1) n v = fillI I b i n v := by
  funext q x
  unfold fillI
  by_cases c : q = b ∧ i ≤ x ∧ x < n
  · rw [if_pos c]
    by_cases y : x = i
    · obtain ⟨rfl, -⟩ := c
      subst y
      rw [if_neg (by omega), up_eq]
    · rw [if_pos (by omega)]
  · rw [if_neg c, if_neg (by omega)]
    by_cases y : q = b
    · rw [up_ni (by omega)]
    · rw [up_na y]
theorem fillI_n {I : Nat → Nat → Int} {b i n q : Nat} {v : Int} (z : q ≠ b) : fillI I b i n v q = I q := funext fun _ => if_neg fun y => z y.1
theorem fillI_e {I : Nat → Nat → Int} {b i n x : Nat} {v : Int} (h1 : i ≤ x) (h2 : x < n) : fillI I b i n v b x = v := if_pos ⟨rfl, h1, h2⟩
section P41
variable {d : Nat} {h : IH} {J : Nat → Nat → Int}
theorem l_keeps (s : ShM h 88) {w : Int} : ∀ (k i n : Nat) (I : Nat → Nat → Int) (u : Nat), i + k = 113 → I 88 31 = u → u < 16 → lp d 227 (n + k + 1) 54 [some (iR (some 88)), some (iI w), some (iI 114), some (iI i)] [] (st h I J) = some (o0, st h (up (up (cpy I 90 i 101 (114 * u + i) k) 101 (114 * u + 113) w) 88 31 (u + 1)) J) := by
  obtain ⟨h3, ht, ⟨-, r2, -, -, -, -, -, -, -, -, -, -, r29, -⟩, ⟨-, t2, -, -, -, -, -, -, -, -, -, -, t13, -⟩, ⟨-, l2, -, -, -, -, -, -, -, -, -, -, l13, -⟩⟩ := s
  intro k
  induction k with
  | zero =>
    intro i n I u hk e hu
    have : i = 113 := by omega
    subst this
    rw [e_M_keeps_54, if_neg (by omega), ygR ht r29, ygI ht, e, xB_s, wr_id (x := 114 * (u : Int)) (by omega) (by omega), wr_id (by omega) (by omega), zSI (i := 114 * u + 113) t13 (by omega) l13 (by omega) (by omega), ygI ht, ypI ht h3, up_na (by omega), e, wr_id (by omega) (by omega), cpy_0]
  | succ k ih =>
    intro i n I u hk e hu
    have hf : n + (k + 1) + 1 = (n + k + 1) + 1 := by omega
    rw [hf, e_M_keeps_54, if_pos (by omega), ygR ht r29, ygI ht, e, ygR ht r2, xB_s, yaN t2 l2 (by omega), xB_s, wr_id (x := 114 * (u : Int)) (by omega) (by omega), wr_id (by omega) (by omega), zSI (i := 114 * u + i) t13 (by omega) l13 (by omega) (by omega), wr_id (x := (i : Int) + 1) (by omega) (by omega)]
    have := ih (i + 1) n (up I 101 (114 * u + i) (I 90 i)) u (by omega) (by rw [up_na (by omega)]; exact e) hu
    rw [show 114 * u + (i + 1) = 114 * u + i + 1 from rfl, cpy_step _ _ _ _ (by omega)] at this
    exact this
theorem s_keeps1 (s : ShM h 88) {I : Nat → Nat → Int} {w : Int} (u : Nat) (e : I 88 31 = u) (hu : u < 16) : rn (d + 1) 227 [iR (some 88), iI w] (st h I J) = some (o0, st h (up (up (cpy I 90 0 101 (114 * u) 113) 101 (114 * u + 113) w) 88 31 (u + 1)) J) := by
  rw [r_M_keeps, e_M_keeps, ygI s.2.1, e, if_neg (by omega)]
  exact l_keeps s 113 0 999885 I u rfl e hu
theorem l_image (s : ShM h 88) {x : Nat} (hx : x ≤ 1) : ∀ (k i n : Nat) (I : Nat → Nat → Int), i + k = 5794 → lp (d + 1) 158 (n + k + 1) 17 [some (iR (some 88)), some (iI x), some (iI i)] [] (st h I J) = some (oI 0, st h (up (up (cpy I 90 i 91 (5794 * x + i) k) 92 x 1) 88 0 0) J) := by
  have s0 := s
  obtain ⟨h3, ht, ⟨-, r2, r3, r4, -⟩, ⟨-, t2, t3, t4, -⟩, ⟨-, l2, l3, l4, -⟩⟩ := s
  intro k
  induction k with
  | zero =>
    intro i n I hk
    have : i = 5794 := by omega
    subst this
    rw [e_M_image_17, if_neg (by omega), ygR ht r4, xB_s, zSB3 (i := x) t4 (by omega) l4 rfl (by omega), n1_1, yck ht, s_good s0, kI_o, cpy_0]
  | succ k ih =>
    intro i n I hk
    have hf : n + (k + 1) + 1 = (n + k + 1) + 1 := by omega
    rw [hf, e_M_image_17, if_pos (by omega), ygR ht r3, ygR ht r2, xB_s, yaN t2 l2 (by omega), xB_s, wr_id (x := 5794 * (x : Int)) (by omega) (by omega), wr_id (by omega) (by omega), zSI (i := 5794 * x + i) t3 (by omega) l3 (by omega) (by omega), wr_id (x := (i : Int) + 1) (by omega) (by omega)]
    have := ih (i + 1) n (up I 91 (5794 * x + i) (I 90 i)) (by omega)
    rw [show 5794 * x + (i + 1) = 5794 * x + i + 1 from rfl, cpy_step _ _ _ _ (by omega)] at this
    exact this
theorem l_came (s : ShM h 88) : ∀ (k i n : Nat) (I : Nat → Nat → Int), i + k = 5040 → lp d 261 (n + k + 1) 6 [some (iR (some 88)), some (iI i), none] [] (st h I J) = lp d 261 n 28 [some (iR (some 88)), some (iI 0), none] [] (st h (fillI I 108 i 5040 (-1)) J) := by
  obtain ⟨h3, ht, ⟨-, -, -, -, -, -, -, -, -, -, -, -, -, -, -, -, -, -, -, r39, -⟩, ⟨-, -, -, -, -, -, -, -, -, -, -, -, -, -, -, -, -, -, -, t20, -⟩, ⟨-, -, -, -, -, -, -, -, -, -, -, -, -, -, -, -, -, -, -, l20, -⟩⟩ := s
  intro k
  induction k with
  | zero =>
    intro i n I hk
    have : i = 5040 := by omega
    subst this
    rw [e_M_comesHome_6, if_neg (by omega), fillI_0]
  | succ k ih =>
    intro i n I hk
    have hf : n + (k + 1) + 1 = (n + k + 1) + 1 := by omega
    rw [hf, e_M_comesHome_6, if_pos (by omega), ygR ht r39, xB_s, ysN t20 (by omega) l20 (by omega), wr_id (by omega) (by omega)]
    have := ih (i + 1) n (up I 108 i (-1)) (by omega)
    rw [fillI_step _ _ (by omega)] at this
    exact this
theorem l_came0 (s : ShM h 88) (I : Nat → Nat → Int) : lp d 261 999999 6 [some (iR (some 88)), some (iI 0), none] [] (st h I J) = lp d 261 994958 28 [some (iR (some 88)), some (iI 0), none] [] (st h (fillI I 108 0 5040 (-1)) J) := l_came s 5040 0 994958 I rfl
theorem pM_image0 {I : Nat → Nat → Int} (s : StM h I J) : ∃ I1 J1, rn (d + 8) 158 [iR (some 88), iI 0] (st h I J) = some (oI 0, st h I1 J1) ∧ I1 0 = I 0 := by
  rw [r_M_image, e_M_image, s_lies, kI_o, if_pos (show (0 : Int) ≤ 0 ∧ (0 : Int) ≤ 1 by omega), if_neg (by omega)]
  have := l_image (d := d + 6) (J := J) s.1 (x := 0) (by omega) 5794 0 994204 I rfl
  exact ⟨_, _, this, by rw [up_na (by omega), up_na (by omega), cpy_n (by omega)]⟩
theorem pM_image1 {I : Nat → Nat → Int} (s : StM h I J) : ∃ I1 J1, rn (d + 8) 158 [iR (some 88), iI 1] (st h I J) = some (oI 0, st h I1 J1) ∧ I1 0 = I 0 := by
  rw [r_M_image, e_M_image, s_lies, kI_o, if_pos (show (0 : Int) ≤ 1 ∧ (1 : Int) ≤ 1 by omega), if_neg (by omega)]
  have := l_image (d := d + 6) (J := J) s.1 (x := 1) (by omega) 5794 0 994204 I rfl
  exact ⟨_, _, this, by rw [up_na (by omega), up_na (by omega), cpy_n (by omega)]⟩
variable {I : Nat → Nat → Int}
theorem pM_pass (s : StM h I J) : ∃ I1 J1, rn (d + 8) 243 [iR (some 88)] (st h I J) = some (oI (0), st h I1 J1) ∧ I1 0 = I 0 := by
  rw [r_M_pass, e_M_pass, yck (m_t88 s), r_M_passesKept, e_M_passesKept, ygR (m_t88 s) (m_r2 s), xB_s, yaIv (i := 112) (j := 112) (x := 0) (m_t90 s) (m_l90 s) rfl (by omega) (by first | rfl | (exact congrFun (m_I s (by omega) (by omega)) _)), if_neg (by first | rfl | omega | decide), yck (m_t88 s), r_M_likedTogether, e_M_likedTogether, e_M_likedTogether_4, yck (m_t88 s), r_M_townMany, e_M_townMany, ygR (m_t88 s) (m_r2 s), xB_s, yaIv (i := 183) (j := 183) (x := 0) (m_t90 s) (m_l90 s) rfl (by omega) (by first | rfl | (exact congrFun (m_I s (by omega) (by omega)) _)), kI_o, if_neg (by first | rfl | omega | decide), kI_o, yck (m_t88 s), s_keeps1 s.1 0 (by first | rfl | (exact congrFun (m_I s (by omega) (by omega)) _)) (by omega), kV_o, yck (m_t88 s), r_M_yearPasses, e_M_yearPasses, e_M_yearPasses_2, yck (m_t88 s), r_M_townMany, e_M_townMany, ygR (m_t88 s) (m_r2 s), xB_s, yaIv (i := 183) (j := 183) (x := 0) (m_t90 s) (m_l90 s) rfl (by omega) (by first | rfl | (simp (disch := omega) only [up_na, up_ni, up_eq, cpy_n, fillI_n, fillI_e]; done) | (simp (disch := omega) only [up_na, up_ni, up_eq, cpy_n, fillI_n, fillI_e]; first | rfl | (exact congrFun (m_I s (by omega) (by omega)) _))), kI_o, if_neg (by first | rfl | omega | decide), e_M_yearPasses_44, yck (m_t88 s), r_M_townMany, e_M_townMany, ygR (m_t88 s) (m_r2 s), xB_s, yaIv (i := 183) (j := 183) (x := 0) (m_t90 s) (m_l90 s) rfl (by omega) (by first | rfl | (simp (disch := omega) only [up_na, up_ni, up_eq, cpy_n, fillI_n, fillI_e]; done) | (simp (disch := omega) only [up_na, up_ni, up_eq, cpy_n, fillI_n, fillI_e]; first | rfl | (exact congrFun (m_I s (by omega) (by omega)) _))), kI_o, if_neg (by first | rfl | omega | decide), e_M_yearPasses_95, yck (m_t88 s), r_M_townMany, e_M_townMany, ygR (m_t88 s) (m_r2 s), xB_s, yaIv (i := 183) (j := 183) (x := 0) (m_t90 s) (m_l90 s) rfl (by omega) (by first | rfl | (simp (disch := omega) only [up_na, up_ni, up_eq, cpy_n, fillI_n, fillI_e]; done) | (simp (disch := omega) only [up_na, up_ni, up_eq, cpy_n, fillI_n, fillI_e]; first | rfl | (exact congrFun (m_I s (by omega) (by omega)) _))), kI_o, if_neg (by first | rfl | omega | decide), ygR (m_t88 s) (m_r2 s), xB_s, yaIv (i := 112) (j := 112) (x := 0) (m_t90 s) (m_l90 s) rfl (by omega) (by first | rfl | (simp (disch := omega) only [up_na, up_ni, up_eq, cpy_n, fillI_n, fillI_e]; done) | (simp (disch := omega) only [up_na, up_ni, up_eq, cpy_n, fillI_n, fillI_e]; first | rfl | (exact congrFun (m_I s (by omega) (by omega)) _))), xB_s]
  try rw [show wr (0 + 1) = (1 : Int) from by first | rfl | decide]
  rw [zSI (i := 112) (j := 112) (m_t90 s) (by omega) (m_l90 s) rfl (by omega), kV_o, kI_o, yck (m_t88 s), r_M_goodOr, e_M_goodOr, if_neg (by first | rfl | omega | decide), yck (m_t88 s), r_M_good, e_M_good, ypI (m_t88 s) (by omega), kI_o, kI_o]
  exact M_fin (by first | rfl | omega | (rw [if_pos (by omega)]; done) | (rw [if_neg (by omega)]; done)) (by first | rfl | (simp (disch := omega) only [up_na, cpy_n, fillI_n]; done))
theorem pM_home0 (s : StM h I J) : ∃ I1 J1, rn (d + 8) 263 [iR (some 88), iI (-1)] (st h I J) = some (oI (0), st h I1 J1) ∧ I1 0 = I 0 := by
  rw [r_M_home, e_M_home, if_neg (by first | rfl | omega | decide), yck (m_t88 s), r_M_comesHome, e_M_comesHome, yck (m_t88 s), r_M_laysSends, e_M_laysSends, e_M_laysSends_2, yck (m_t88 s), r_M_townMany, e_M_townMany, ygR (m_t88 s) (m_r2 s), xB_s, yaIv (i := 183) (j := 183) (x := 0) (m_t90 s) (m_l90 s) rfl (by omega) (by first | rfl | (exact congrFun (m_I s (by omega) (by omega)) _)), kI_o, if_neg (by first | rfl | omega | decide), kV_o, l_came0 s.1, e_M_comesHome_28, yck (m_t88 s), r_M_townMany, e_M_townMany, ygR (m_t88 s) (m_r2 s), xB_s, yaIv (i := 183) (j := 183) (x := 0) (m_t90 s) (m_l90 s) rfl (by omega) (by first | rfl | (simp (disch := omega) only [up_na, up_ni, up_eq, cpy_n, fillI_n, fillI_e]; done) | (simp (disch := omega) only [up_na, up_ni, up_eq, cpy_n, fillI_n, fillI_e]; first | rfl | (exact congrFun (m_I s (by omega) (by omega)) _))), kI_o, if_neg (by first | rfl | omega | decide), ygR (m_t88 s) (m_r41 s), yck (m_t88 s), r_M_numberOf, e_M_numberOf, e_M_numberOf_4, yck (m_t88 s), r_M_townMany, e_M_townMany, ygR (m_t88 s) (m_r2 s), xB_s, yaIv (i := 183) (j := 183) (x := 0) (m_t90 s) (m_l90 s) rfl (by omega) (by first | rfl | (simp (disch := omega) only [up_na, up_ni, up_eq, cpy_n, fillI_n, fillI_e]; done) | (simp (disch := omega) only [up_na, up_ni, up_eq, cpy_n, fillI_n, fillI_e]; first | rfl | (exact congrFun (m_I s (by omega) (by omega)) _))), kI_o, if_neg (by first | rfl | omega | decide), kI_o, xB_s, zSI (i := 0) (j := 0) (m_t110 s) (by omega) (m_l110 s) rfl (by omega), ygR (m_t88 s) (m_r39 s), ygR (m_t88 s) (m_r41 s), xB_s, yaIv (i := 0) (j := 0) (x := 0) (m_t110 s) (m_l110 s) rfl (by omega) (by first | rfl | (simp (disch := omega) only [up_na, up_ni, up_eq, cpy_n, fillI_n, fillI_e]; done) | (simp (disch := omega) only [up_na, up_ni, up_eq, cpy_n, fillI_n, fillI_e]; first | rfl | (exact congrFun (m_I s (by omega) (by omega)) _))), xB_s, zSI (i := 0) (j := 0) (m_t108 s) (by omega) (m_l108 s) rfl (by omega), e_M_comesHome_83, if_pos (by first | rfl | omega | decide), ygR (m_t88 s) (m_r39 s), xB_s, yaIv (i := 0) (j := 0) (x := 49) (m_t108 s) (m_l108 s) rfl (by omega) (by first | rfl | (simp (disch := omega) only [up_na, up_ni, up_eq, cpy_n, fillI_n, fillI_e]; done) | (simp (disch := omega) only [up_na, up_ni, up_eq, cpy_n, fillI_n, fillI_e]; first | rfl | (exact congrFun (m_I s (by omega) (by omega)) _))), if_neg (by first | rfl | omega | decide), ygR (m_t88 s) (m_r39 s), xB_s, yaIv (i := 0) (j := 0) (x := 49) (m_t108 s) (m_l108 s) rfl (by omega) (by first | rfl | (simp (disch := omega) only [up_na, up_ni, up_eq, cpy_n, fillI_n, fillI_e]; done) | (simp (disch := omega) only [up_na, up_ni, up_eq, cpy_n, fillI_n, fillI_e]; first | rfl | (exact congrFun (m_I s (by omega) (by omega)) _))), if_neg (by first | rfl | omega | decide), xZ_1, kI_o, if_neg (by first | rfl | omega | decide), e_M_home_18, ygR (m_t88 s) (m_r39 s), xB_s, yaIv (i := 0) (j := 0) (x := 49) (m_t108 s) (m_l108 s) rfl (by omega) (by first | rfl | (simp (disch := omega) only [up_na, up_ni, up_eq, cpy_n, fillI_n, fillI_e]; done) | (simp (disch := omega) only [up_na, up_ni, up_eq, cpy_n, fillI_n, fillI_e]; first | rfl | (exact congrFun (m_I s (by omega) (by omega)) _))), if_pos (by first | rfl | omega | decide), if_pos (by first | rfl | omega | decide), if_pos (by first | rfl | omega | decide)]
  exact M_fin (by first | rfl | omega | (rw [if_pos (by omega)]; done) | (rw [if_neg (by omega)]; done)) (by first | rfl | (simp (disch := omega) only [up_na, cpy_n, fillI_n]; done))
theorem pM_homeA (s : StM h I J) (x : Int) (hx : x < -1) : ∃ I1 J1, rn (d + 8) 263 [iR (some 88), iI x] (st h I J) = some (oI (-1), st h I1 J1) ∧ I1 0 = I 0 := by
  rw [r_M_home, e_M_home, if_pos (by first | assumption | omega)]
  exact M_fin (by first | rfl | omega | (rw [if_pos (by omega)]; done) | (rw [if_neg (by omega)]; done)) rfl
theorem pM_homeB (s : StM h I J) (x : Int) (hx : -1 < x) : ∃ I1 J1, rn (d + 8) 263 [iR (some 88), iI x] (st h I J) = some (oI (-1), st h I1 J1) ∧ I1 0 = I 0 := by
  rw [r_M_home, e_M_home, if_neg (by first | assumption | omega), yck (m_t88 s), r_M_comesHome, e_M_comesHome, yck (m_t88 s), r_M_laysSends, e_M_laysSends, e_M_laysSends_2, yck (m_t88 s), r_M_townMany, e_M_townMany, ygR (m_t88 s) (m_r2 s), xB_s, yaIv (i := 183) (j := 183) (x := 0) (m_t90 s) (m_l90 s) rfl (by omega) (by first | rfl | (exact congrFun (m_I s (by omega) (by omega)) _)), kI_o, if_neg (by first | rfl | omega | decide), kV_o, l_came0 s.1, e_M_comesHome_28, yck (m_t88 s), r_M_townMany, e_M_townMany, ygR (m_t88 s) (m_r2 s), xB_s, yaIv (i := 183) (j := 183) (x := 0) (m_t90 s) (m_l90 s) rfl (by omega) (by first | rfl | (simp (disch := omega) only [up_na, up_ni, up_eq, cpy_n, fillI_n, fillI_e]; done) | (simp (disch := omega) only [up_na, up_ni, up_eq, cpy_n, fillI_n, fillI_e]; first | rfl | (exact congrFun (m_I s (by omega) (by omega)) _))), kI_o, if_neg (by first | rfl | omega | decide), ygR (m_t88 s) (m_r41 s), yck (m_t88 s), r_M_numberOf, e_M_numberOf, e_M_numberOf_4, yck (m_t88 s), r_M_townMany, e_M_townMany, ygR (m_t88 s) (m_r2 s), xB_s, yaIv (i := 183) (j := 183) (x := 0) (m_t90 s) (m_l90 s) rfl (by omega) (by first | rfl | (simp (disch := omega) only [up_na, up_ni, up_eq, cpy_n, fillI_n, fillI_e]; done) | (simp (disch := omega) only [up_na, up_ni, up_eq, cpy_n, fillI_n, fillI_e]; first | rfl | (exact congrFun (m_I s (by omega) (by omega)) _))), kI_o, if_neg (by first | rfl | omega | decide), kI_o, xB_s, zSI (i := 0) (j := 0) (m_t110 s) (by omega) (m_l110 s) rfl (by omega), ygR (m_t88 s) (m_r39 s), ygR (m_t88 s) (m_r41 s), xB_s, yaIv (i := 0) (j := 0) (x := 0) (m_t110 s) (m_l110 s) rfl (by omega) (by first | rfl | (simp (disch := omega) only [up_na, up_ni, up_eq, cpy_n, fillI_n, fillI_e]; done) | (simp (disch := omega) only [up_na, up_ni, up_eq, cpy_n, fillI_n, fillI_e]; first | rfl | (exact congrFun (m_I s (by omega) (by omega)) _))), xB_s, zSI (i := 0) (j := 0) (m_t108 s) (by omega) (m_l108 s) rfl (by omega), e_M_comesHome_83, if_pos (by first | rfl | omega | decide), ygR (m_t88 s) (m_r39 s), xB_s, yaIv (i := 0) (j := 0) (x := 49) (m_t108 s) (m_l108 s) rfl (by omega) (by first | rfl | (simp (disch := omega) only [up_na, up_ni, up_eq, cpy_n, fillI_n, fillI_e]; done) | (simp (disch := omega) only [up_na, up_ni, up_eq, cpy_n, fillI_n, fillI_e]; first | rfl | (exact congrFun (m_I s (by omega) (by omega)) _))), if_neg (by first | rfl | omega | decide), ygR (m_t88 s) (m_r39 s), xB_s, yaIv (i := 0) (j := 0) (x := 49) (m_t108 s) (m_l108 s) rfl (by omega) (by first | rfl | (simp (disch := omega) only [up_na, up_ni, up_eq, cpy_n, fillI_n, fillI_e]; done) | (simp (disch := omega) only [up_na, up_ni, up_eq, cpy_n, fillI_n, fillI_e]; first | rfl | (exact congrFun (m_I s (by omega) (by omega)) _))), if_neg (by first | rfl | omega | decide), xZ_1, kI_o, if_neg (by first | rfl | omega | decide), e_M_home_18, ygR (m_t88 s) (m_r39 s), xB_s, yaIv (i := 0) (j := 0) (x := 49) (m_t108 s) (m_l108 s) rfl (by omega) (by first | rfl | (simp (disch := omega) only [up_na, up_ni, up_eq, cpy_n, fillI_n, fillI_e]; done) | (simp (disch := omega) only [up_na, up_ni, up_eq, cpy_n, fillI_n, fillI_e]; first | rfl | (exact congrFun (m_I s (by omega) (by omega)) _))), if_pos (by first | rfl | omega | decide), if_neg (by first | assumption | omega), if_neg (by first | assumption | omega), if_neg (by first | assumption | omega)]
  exact M_fin (by first | rfl | omega | (rw [if_pos (by omega)]; done) | (rw [if_neg (by omega)]; done)) (by first | rfl | (simp (disch := omega) only [up_na, cpy_n, fillI_n]; done))
theorem pM_imageA (s : StM h I J) (x : Int) (hx : x < 0) : ∃ I1 J1, rn (d + 8) 158 [iR (some 88), iI x] (st h I J) = some (oI (-1), st h I1 J1) ∧ I1 0 = I 0 := by
  rw [r_M_image, e_M_image, r_M_lies, e_M_lies, if_pos (by first | assumption | omega), xZ_0, kI_o, if_pos (by first | rfl | omega | decide), yck (m_t88 s), r_M_refuses, e_M_refuses, ypI (m_t88 s) (by omega), ygR (m_t88 s) (m_r1 s), xB_s]
  try rw [show wr (- (-1)) = (1 : Int) from by first | rfl | decide]
  rw [yaIv (i := 1) (j := 1) (x := 0) (m_t89 s) (m_l89 s) rfl (by omega) (by first | rfl | (simp (disch := omega) only [up_na, up_ni, up_eq, cpy_n, fillI_n, fillI_e]; done) | (simp (disch := omega) only [up_na, up_ni, up_eq, cpy_n, fillI_n, fillI_e]; first | rfl | (exact congrFun (m_I s (by omega) (by omega)) _))), xB_s]
  try rw [show wr (- (-1)) = (1 : Int) from by first | rfl | decide]
  try rw [show wr (0 + 1) = (1 : Int) from by first | rfl | decide]
  rw [zSI (i := 1) (j := 1) (m_t89 s) (by omega) (m_l89 s) rfl (by omega), kI_o]
  exact M_fin (by first | rfl | omega | (rw [if_pos (by omega)]; done) | (rw [if_neg (by omega)]; done)) (by first | rfl | (simp (disch := omega) only [up_na, cpy_n, fillI_n]; done))
theorem pM_imageB (s : StM h I J) (x : Int) (hx : 1 < x) : ∃ I1 J1, rn (d + 8) 158 [iR (some 88), iI x] (st h I J) = some (oI (-1), st h I1 J1) ∧ I1 0 = I 0 := by
  rw [r_M_image, e_M_image, r_M_lies, e_M_lies, if_neg (by first | assumption | omega), if_neg (by first | assumption | omega), xZ_0, kI_o, if_pos (by first | rfl | omega | decide), yck (m_t88 s), r_M_refuses, e_M_refuses, ypI (m_t88 s) (by omega), ygR (m_t88 s) (m_r1 s), xB_s]
  try rw [show wr (- (-1)) = (1 : Int) from by first | rfl | decide]
  rw [yaIv (i := 1) (j := 1) (x := 0) (m_t89 s) (m_l89 s) rfl (by omega) (by first | rfl | (simp (disch := omega) only [up_na, up_ni, up_eq, cpy_n, fillI_n, fillI_e]; done) | (simp (disch := omega) only [up_na, up_ni, up_eq, cpy_n, fillI_n, fillI_e]; first | rfl | (exact congrFun (m_I s (by omega) (by omega)) _))), xB_s]
  try rw [show wr (- (-1)) = (1 : Int) from by first | rfl | decide]
  try rw [show wr (0 + 1) = (1 : Int) from by first | rfl | decide]
  rw [zSI (i := 1) (j := 1) (m_t89 s) (by omega) (m_l89 s) rfl (by omega), kI_o]
  exact M_fin (by first | rfl | omega | (rw [if_pos (by omega)]; done) | (rw [if_neg (by omega)]; done)) (by first | rfl | (simp (disch := omega) only [up_na, cpy_n, fillI_n]; done))
end P41
