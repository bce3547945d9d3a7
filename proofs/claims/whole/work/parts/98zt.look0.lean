/-! The way told, packing, found already: the class (by program, wip/whole/gen98zt.py) -/
def TlB (n : Nat) (S : BSt) : Prop := ∀ i, i < S.1 → ∀ j, n ≤ j → S.2.1 i j = j
/-- the first k of an arrangement, packed -/
def pkN (a : Nat → Nat) : Nat → Nat
  | 0 => 0
  | k + 1 => pkN a k + 8 ^ k * a k
section P98zt
variable {d n : Nat} {I I' J : Nat → Nat → Int} {h h' : IH} {qc pc sc : Nat} {a b : Nat → Nat} {snd : Nat → Nat → Nat → Bool} {S : BSt}
theorem step_t {hd x y : Nat} (t : TlB n S) (hh : hd < S.1) (hx : x < n) (hy : y < n) : TlB n (stepB n snd hd x y S) := by
  unfold stepB
  by_cases c : exO snd (S.2.1 hd) x y = true ∧ inB (nmB n S) (numA n (swA (S.2.1 hd) x y)) S.1 = false
  · rw [if_pos c]
    intro i hi j hj
    have hi' : i < S.1 + 1 := hi
    show (if i = S.1 then swA (S.2.1 hd) x y else S.2.1 i) j = j
    by_cases z : i = S.1
    · rw [if_pos z]
      exact swA_t hx hy (t hd hh) j hj
    · rw [if_neg z]
      exact t i (by omega) j hj
  · rw [if_neg c]
    exact t
theorem row_t {hd x : Nat} : ∀ (k y : Nat) (S : BSt), y + k = n → x < y → BOk n S → hd < S.1 → TlB n S → TlB n (rowB n snd hd x k y S)
  | 0, _, _, _, _, _, _, t => t
  | k + 1, y, S, hy, hx, b, hh, t => by
    have s := b.step (snd := snd) hh hx (show y < n by omega)
    exact row_t k (y + 1) (stepB n snd hd x y S) (by omega) (by omega) s.1 (by omega) (step_t t hh (by omega) (by omega))
theorem all_t {hd : Nat} : ∀ (k x : Nat) (S : BSt), x + k = n → BOk n S → hd < S.1 → TlB n S → TlB n (allB n snd hd k x S)
  | 0, _, _, _, _, _, t => t
  | k + 1, x, S, hx, b, hh, t => by
    have r := row_ok (snd := snd) (hd := hd) (x := x) (n - (x + 1)) (x + 1) S (by omega) (by omega) b hh
    exact all_t k (x + 1) (rowB n snd hd x (n - (x + 1)) (x + 1) S) (by omega) r.1 (by omega) (row_t (n - (x + 1)) (x + 1) S (by omega) (by omega) b hh t)
theorem go_t : ∀ (q hd : Nat) (S : BSt), BOk n S → TlB n S → S.2.2.2 0 = 0 → BOk n (goB n snd q hd S) ∧ TlB n (goB n snd q hd S) ∧ (goB n snd q hd S).2.2.2 0 = 0
  | 0, _, _, b, t, e => ⟨b, t, e⟩
  | q + 1, hd, S, b, t, e => by
    show BOk n (if hd < S.1 ∧ inB (nmB n S) 0 S.1 = false then goB n snd q (hd + 1) (allB n snd hd n 0 S) else S) ∧ TlB n (if hd < S.1 ∧ inB (nmB n S) 0 S.1 = false then goB n snd q (hd + 1) (allB n snd hd n 0 S) else S) ∧ (if hd < S.1 ∧ inB (nmB n S) 0 S.1 = false then goB n snd q (hd + 1) (allB n snd hd n 0 S) else S).2.2.2 0 = 0
    by_cases c : hd < S.1 ∧ inB (nmB n S) 0 S.1 = false
    · rw [if_pos c]
      exact go_t q (hd + 1) _ (all_ok (snd := snd) (hd := hd) n 0 S (by omega) b c.1).1 (all_t n 0 S (by omega) b c.1 t) (by rw [all_e n 0 S (by omega) b c.1]; exact e)
    · rw [if_neg c]
      exact ⟨b, t, e⟩
theorem bfs_t (ar : ArN n a) : BOk n (bfsB n snd a) ∧ TlB n (bfsB n snd a) ∧ (bfsB n snd a).2.2.2 0 = 0 := go_t 5040 0 (st0B a) (st0B_ok ar.2.1) (fun _ _ j hj => ar.2.2 j hj) rfl
theorem bfs_home (na : numA n a = 0) : bfsB n snd a = st0B a := by
  have en0 : inB (nmB n (st0B a)) 0 (st0B a).1 = true := by
    show (decide (numA n a = 0) || false) = true
    simp [na]
  show (if 0 < (st0B a).1 ∧ inB (nmB n (st0B a)) 0 (st0B a).1 = false then _ else st0B a) = st0B a
  rw [en0, if_neg (fun z => by cases z.2)]
/-- the word of one found, shifted -/
theorem word_ex {v e : Nat} (hv : v < 2097152) (he : e < 49) : ishr ((v + 2097152 * e : Nat) : Int) 21 = (e : Int) := by
  have := ishr_n (a := v + 2097152 * e) (k := 21) (by omega) (by omega)
  rw [show (v + 2097152 * e) / 2 ^ 21 = e by show (v + 2097152 * e) / 2097152 = e; omega] at this
  exact this
theorem code_lt (hn : n ≤ 7) (b : BOk n S) (e0 : S.2.2.2 0 = 0) {i : Nat} (hi : i < S.1) : S.2.2.2 i < 49 := by
  by_cases z : i = 0
  · rw [z, e0]
    omega
  · obtain ⟨-, x, y, e1, e2, e3⟩ := b.2.2.2 i (by omega) hi
    omega
/-- the way told -/
theorem l_sw36 (s : ShT h) (wy : WyS h qc pc sc) (hn : n ≤ 7) (b : BOk n S) (t : TlB n S) (e0 : S.2.2.2 0 = 0) (w : ∀ i, i < S.1 → I qc i = ((packA (S.2.1 i) + 2097152 * S.2.2.2 i : Nat) : Int) ∧ I pc i = if i = 0 then -1 else (S.2.2.1 i : Int)) {x : Nat} (hx : x ≤ 5040) : ∀ (q i f : Nat), i < S.1 → depB S S.1 i = x + q + 1 → lp d 90 (f + q + 1) 36 [some (iR (some 83)), some (iI (x : Int)), some (iI (i : Int)), some (iI ((x + q : Nat) : Int))] [] (st h I J) = some (oI (S.2.2.2 (ancB S q i) : Nat), st h I J) := by
  obtain ⟨⟨y1, y2, y3⟩, ⟨q1, q2, q3⟩, ⟨p1, p2, p3⟩, -, qp⟩ := wy
  have ble := b.le hn
  have t83 := aT_83 s
  intro q
  induction q with
  | zero =>
    intro i f hi hd
    have sm := perm_sm hn (b.2.1 i hi) (t i hi)
    rw [Nat.add_zero, e_Wh_swapAt_36, if_pos (by omega), ygR t83 y1, xB_s, yaIv (i := i) q1 q2 rfl (by omega) (w i hi).1, word_ex (pack_lt sm) (code_lt hn b e0 hi)]
    rfl
  | succ q ih =>
    intro i f hi hd
    have i0 : i ≠ 0 := fun z => by
      rw [z, dep_0] at hd
      omega
    have dl := dep_le (S := S) S.1 i
    have p := (b.2.2.2 i (by omega) hi).1
    have ds := dep_s b i0 hi
    have wp := (w i hi).2
    rw [if_neg i0] at wp
    rw [show f + (q + 1) + 1 = (f + q + 1) + 1 by omega, e_Wh_swapAt_36, if_neg (by omega), ygR t83 y2, xB_s, yaIv (i := i) p1 p2 rfl (by omega) wp, if_neg (by omega), ygR t83 y2, xB_s, yaIv (i := i) p1 p2 rfl (by omega) wp, wr_id (x := ((x + (q + 1) : Nat) : Int) + (-1)) (by omega) (by omega), show ((x + (q + 1) : Nat) : Int) + (-1) = ((x + q : Nat) : Int) by omega, ih (S.2.2.1 i) f (by omega) (by omega)]
    rfl
theorem t_swapAt (s : ShT h) (wy : WyS h qc pc sc) (hn : n ≤ 7) (b : BOk n S) (t : TlB n S) (e0 : S.2.2.2 0 = 0) (w : ∀ i, i < S.1 → I qc i = ((packA (S.2.1 i) + 2097152 * S.2.2.2 i : Nat) : Int) ∧ I pc i = if i = 0 then -1 else (S.2.2.1 i : Int)) {x g : Nat} (hg : g < S.1) (hx : x < depB S S.1 g) (f0 : I 83 0 = (depB S S.1 g : Int)) (f1 : I 83 1 = (g : Int)) : rn (d + 1) 90 [iR (some 83), iI (x : Int)] (st h I J) = some (oI (S.2.2.2 (ancB S (depB S S.1 g - 1 - x) g) : Nat), st h I J) := by
  have ble := b.le hn
  have dl := dep_le (S := S) S.1 g
  have t83 := aT_83 s
  have r := l_sw36 (d := d) (J := J) s wy hn b t e0 w (x := x) (by omega) (depB S S.1 g - 1 - x) g (999998 - (depB S S.1 g - 1 - x)) hg (by omega)
  rw [show 999998 - (depB S S.1 g - 1 - x) + (depB S S.1 g - 1 - x) + 1 = 999999 by omega, show ((x + (depB S S.1 g - 1 - x) : Nat) : Int) = (depB S S.1 g : Int) - 1 by omega] at r
  rw [r_Wh_swapAt, e_Wh_swapAt, ygIv t83 f1, if_neg (by omega), ygR t83 wy.1.1]
  dsimp only
  rw [ygR t83 wy.1.2.1]
  dsimp only
  rw [ygIv t83 f1, ygIv t83 f0, wr_id (x := ((depB S S.1 g : Nat) : Int) - 1) (by omega) (by omega)]
  exact r
theorem pkN_lt (s : Sm8 a) : ∀ k, k ≤ 7 → pkN a k < 8 ^ k
  | 0, _ => Nat.one_pos
  | k + 1, hk => by
    have ih := pkN_lt s k (by omega)
    have := s k (by omega)
    show pkN a k + 8 ^ k * a k < 8 ^ (k + 1)
    have h2 : 8 ^ k * a k ≤ 8 ^ k * 7 := Nat.mul_le_mul_left _ (by omega)
    rw [Nat.pow_succ]
    omega
theorem pkN_7 : pkN a 7 = packA a := by
  show 0 + 8 ^ 0 * a 0 + 8 ^ 1 * a 1 + 8 ^ 2 * a 2 + 8 ^ 3 * a 3 + 8 ^ 4 * a 4 + 8 ^ 5 * a 5 + 8 ^ 6 * a 6 = _
  unfold packA
  omega
/-- one more packed -/
theorem pk_or (s : Sm8 a) {k : Nat} (hk : k < 7) : ior (pkN a k : Nat) (ishl (a k : Nat) (wr (3 * (k : Int)))) = (pkN a (k + 1) : Nat) := by
  have l := pkN_lt s k (by omega)
  have l2 := pkN_lt s (k + 1) (by omega)
  have m : 8 ^ (k + 1) ≤ 8 ^ 7 := Nat.pow_le_pow_right (by omega) (by omega)
  have e8 : (8 : Nat) ^ 7 = 2097152 := by decide
  have e2 : (8 : Nat) ^ k = 2 ^ (3 * k) := by rw [Nat.pow_mul]
  have hs : pkN a (k + 1) = pkN a k + 8 ^ k * a k := rfl
  have hc : a k * 2 ^ (3 * k) = 8 ^ k * a k := by rw [e2, Nat.mul_comm]
  rw [wr_id (x := 3 * (k : Int)) (by omega) (by omega), show 3 * (k : Int) = ((3 * k : Nat) : Int) by omega, ishl_n (by omega) (by omega), ior_n (by omega) (by omega), hc, hs]
  have := Nat.two_pow_add_eq_or_of_lt (i := 3 * k) (b := pkN a k) (by rw [← e2]; exact l) (a k)
  rw [← e2] at this
  rw [Nat.or_comm, ← this, Nat.add_comm]
/-- loop of isFound -/
theorem l_if25 (s : ShT h) : ∀ (q i f : Nat), i + q = 49 → ((∀ j, i ≤ j → j < 49 → I 84 j = I 85 j) ∧ lp d 92 (f + q + 1) 25 [some (iR (some 83)), none, none, some (iI 1), some (iI (i : Int))] [] (st h I J) = some (oI 1, st h I J)) ∨ lp d 92 (f + q + 1) 25 [some (iR (some 83)), none, none, some (iI 1), some (iI (i : Int))] [] (st h I J) = some (oI 0, st h I J) := by
  intro q
  induction q with
  | zero =>
    intro i f hi
    refine Or.inl ⟨fun j j1 j2 => by omega, ?_⟩
    rw [Nat.add_zero, e_Wh_isFound_25, if_neg (by omega), xZ_1]
  | succ q ih =>
    intro i f hi
    have q0 : lp d 92 (f + q + 1) 25 [some (iR (some 83)), none, none, some (iI 0), some (iI ((i + 1 : Nat) : Int))] [] (st h I J) = some (oI 0, st h I J) := by
      rw [e_Wh_isFound_25]
      by_cases c : ((i + 1 : Nat) : Int) < 49
      · rw [if_pos c, if_pos rfl, xZ_0]
      · rw [if_neg c, xZ_0]
    by_cases c : I 84 i = I 85 i
    · rcases ih (i + 1) f (by omega) with ⟨z1, z2⟩ | z
      · refine Or.inl ⟨fun j j1 j2 => ?_, ?_⟩
        · by_cases z : j = i
          · rw [z]
            exact c
          · exact z1 j (by omega) j2
        · rw [show f + (q + 1) + 1 = (f + q + 1) + 1 by omega, e_Wh_isFound_25, if_pos (by omega), if_neg (by omega), ygR (aT_83 s) (aR_83_4 s), xB_s, yaIv (i := i) (aT_84 s) (aL_84 s) rfl (by omega) rfl, ygR (aT_83 s) (aR_83_5 s), xB_s, yaIv (i := i) (aT_85 s) (aL_85 s) rfl (by omega) rfl, if_pos c, wr_id (x := (i : Int) + 1) (by omega) (by omega), show (i : Int) + 1 = ((i + 1 : Nat) : Int) by omega]
          exact z2
      · refine Or.inr ?_
        rw [show f + (q + 1) + 1 = (f + q + 1) + 1 by omega, e_Wh_isFound_25, if_pos (by omega), if_neg (by omega), ygR (aT_83 s) (aR_83_4 s), xB_s, yaIv (i := i) (aT_84 s) (aL_84 s) rfl (by omega) rfl, ygR (aT_83 s) (aR_83_5 s), xB_s, yaIv (i := i) (aT_85 s) (aL_85 s) rfl (by omega) rfl, if_pos c, wr_id (x := (i : Int) + 1) (by omega) (by omega), show (i : Int) + 1 = ((i + 1 : Nat) : Int) by omega]
        exact z
    · refine Or.inr ?_
      rw [show f + (q + 1) + 1 = (f + q + 1) + 1 by omega, e_Wh_isFound_25, if_pos (by omega), if_neg (by omega), ygR (aT_83 s) (aR_83_4 s), xB_s, yaIv (i := i) (aT_84 s) (aL_84 s) rfl (by omega) rfl, ygR (aT_83 s) (aR_83_5 s), xB_s, yaIv (i := i) (aT_85 s) (aL_85 s) rfl (by omega) rfl, if_neg c, wr_id (x := (i : Int) + 1) (by omega) (by omega), show (i : Int) + 1 = ((i + 1 : Nat) : Int) by omega]
      exact q0
theorem t_isFound (s : ShT h) (x y : Int) : ((I 83 2 = x ∧ I 83 3 = y ∧ ∀ j, j < 49 → I 84 j = I 85 j) ∧ rn (d + 1) 92 [iR (some 83), iI x, iI y] (st h I J) = some (oI 1, st h I J)) ∨ rn (d + 1) 92 [iR (some 83), iI x, iI y] (st h I J) = some (oI 0, st h I J) := by
  have t83 := aT_83 s
  have q0 : lp d 92 999999 25 [some (iR (some 83)), none, none, some (iI 0), some (iI 0)] [] (st h I J) = some (oI 0, st h I J) := by
    rw [e_Wh_isFound_25, if_pos (by omega), if_pos rfl, xZ_0]
  by_cases c2 : I 83 2 = x
  case neg =>
    refine Or.inr ?_
    rw [r_Wh_isFound, e_Wh_isFound, ygIv t83 rfl, if_neg c2]
    exact q0
  by_cases c3 : I 83 3 = y
  case neg =>
    refine Or.inr ?_
    rw [r_Wh_isFound, e_Wh_isFound, ygIv t83 rfl, if_pos c2, ygIv t83 rfl, if_neg c3]
    exact q0
  rcases l_if25 (d := d) (I := I) (J := J) s 49 0 999949 rfl with ⟨z1, z2⟩ | z
  · refine Or.inl ⟨⟨c2, c3, fun j hj => z1 j (Nat.zero_le _) hj⟩, ?_⟩
    rw [r_Wh_isFound, e_Wh_isFound, ygIv t83 rfl, if_pos c2, ygIv t83 rfl, if_pos c3]
    exact z2
  · refine Or.inr ?_
    rw [r_Wh_isFound, e_Wh_isFound, ygIv t83 rfl, if_pos c2, ygIv t83 rfl, if_pos c3]
    exact z
end P98zt
