/-! Numbers of arrangements: the reference (by program, wip/whole/gen98ze.py) -/
/-- the reference's order is a -/
def ArM (I : Nat → Nat → Int) (n : Nat) (a : Nat → Nat) : Prop := ∀ i, i < n → I 111 i = (a i : Int)
section P98ze
variable {d n : Nat} {I I' J : Nat → Nat → Int} {h : IH} {a : Nat → Nat}
theorem l_num19 (m : ShM h 88) (en : I 90 183 = (n : Int)) (hn : n ≤ 7) (ar : ArM I n a) {t : Nat} (ht : t < n) {x : Nat} (hx : x ≤ 5040) : ∀ (k j c f : Nat), j + k = n → c + k ≤ 7 → lp (d + 1) 256 (f + k + 1) 19 [some (iR (some 88)), some (iI (x : Int)), some (iI (t : Int)), some (iI (c : Int)), some (iI (j : Int))] [] (st h I J) = lp (d + 1) 256 f 4 [some (iR (some 88)), some (iI ((x * (n - t) + (c + cntB (fun j => decide (a j < a t)) k j) : Nat) : Int)), some (iI ((t + 1 : Nat) : Int)), none, none] [] (st h I J) := by
  have e3 : (x : Int) * ((n - t : Nat) : Int) = ((x * (n - t) : Nat) : Int) := (Int.natCast_mul x (n - t)).symm
  have b3 : x * (n - t) ≤ 5040 * 7 := Nat.mul_le_mul hx (by omega)
  intro k
  induction k with
  | zero =>
    intro j c f hj hc
    rw [Nat.add_zero, e_M_numberOf_19, yck (bT_88 m), m_many m en, kI_o, if_neg (by omega), yck (bT_88 m), m_many m en, kI_o, wr_id (x := (n : Int) - (t : Int)) (by omega) (by omega), show (n : Int) - (t : Int) = ((n - t : Nat) : Int) by omega, e3, wr_id (x := ((x * (n - t) : Nat) : Int)) (by omega) (by omega), wr_id (x := ((x * (n - t) : Nat) : Int) + (c : Int)) (by omega) (by omega), wr_id (x := (t : Int) + 1) (by omega) (by omega)]
    show lp (d + 1) 256 f 4 _ _ _ = lp (d + 1) 256 f 4 [some (iR (some 88)), some (iI ((x * (n - t) + (c + 0) : Nat) : Int)), some (iI ((t + 1 : Nat) : Int)), none, none] [] (st h I J)
    rw [show ((x * (n - t) + (c + 0) : Nat) : Int) = ((x * (n - t) : Nat) : Int) + (c : Int) by omega]
    rfl
  | succ k ih =>
    intro j c f hj hc
    have w1 : wr ((j : Int) + 1) = ((j + 1 : Nat) : Int) := by rw [wr_id (by omega) (by omega)]; omega
    rw [show f + (k + 1) + 1 = (f + k + 1) + 1 by omega, e_M_numberOf_19, yck (bT_88 m), m_many m en, kI_o, if_pos (by omega), ygR (bT_88 m) (bR_42 m), xB_s, yaIv (i := j) (bT_111 m) (bL_111 m) rfl (by omega) (ar j (by omega)), ygR (bT_88 m) (bR_42 m), xB_s, yaIv (i := t) (bT_111 m) (bL_111 m) rfl (by omega) (ar t ht), w1]
    have ec : cntB (fun j => decide (a j < a t)) (k + 1) j = (if decide (a j < a t) = true then 1 else 0) + cntB (fun j => decide (a j < a t)) k (j + 1) := rfl
    by_cases q : a j < a t
    · rw [if_pos (by omega), wr_id (x := (c : Int) + 1) (by omega) (by omega), show (c : Int) + 1 = ((c + 1 : Nat) : Int) by omega, ih (j + 1) (c + 1) f (by omega) (by omega), ec, if_pos (by simpa using q), show c + 1 + cntB (fun j => decide (a j < a t)) k (j + 1) = c + (1 + cntB (fun j => decide (a j < a t)) k (j + 1)) by omega]
    · rw [if_neg (by omega), wr_id (x := (c : Int) + 0) (by omega) (by omega), show (c : Int) + 0 = (c : Int) by omega, ih (j + 1) c f (by omega) (by omega), ec, if_neg (by simpa using q), show c + cntB (fun j => decide (a j < a t)) k (j + 1) = c + (0 + cntB (fun j => decide (a j < a t)) k (j + 1)) by omega]
theorem l_num4 (m : ShM h 88) (en : I 90 183 = (n : Int)) (hn : n ≤ 7) (ar : ArM I n a) : ∀ (k t f : Nat), t + k = n → lp (d + 1) 256 (f + 10 * k + 1) 4 [some (iR (some 88)), some (iI (numP n a t : Nat)), some (iI (t : Int)), none, none] [] (st h I J) = some (oI (numA n a : Nat), st h I J) := by
  intro k
  induction k with
  | zero =>
    intro t f ht
    rw [show f + 10 * 0 + 1 = f + 1 by omega, e_M_numberOf_4, yck (bT_88 m), m_many m en, kI_o, if_neg (by omega), show t = n by omega]
    rfl
  | succ k ih =>
    intro t f ht
    have hx : numP n a t ≤ 5040 := Nat.le_of_lt (Nat.lt_of_lt_of_le (numP_lt t (by omega)) (ffP_le hn (by omega)))
    have i0 := l_num19 (d := d) (J := J) m en hn ar (t := t) (by omega) hx (n - (t + 1)) (t + 1) 0 (f + 10 * k + 1 + (8 - (n - (t + 1)))) (by omega) (by omega)
    rw [show f + 10 * k + 1 + (8 - (n - (t + 1))) + (n - (t + 1)) + 1 = f + 10 * (k + 1) by omega, Nat.zero_add] at i0
    have i1 := ih (t + 1) (f + (8 - (n - (t + 1)))) (by omega)
    rw [show f + (8 - (n - (t + 1))) + 10 * k + 1 = f + 10 * k + 1 + (8 - (n - (t + 1))) by omega] at i1
    have i0' : lp (d + 1) 256 (f + 10 * (k + 1)) 19 [some (iR (some 88)), some (iI (numP n a t : Nat)), some (iI (t : Int)), some (iI 0), some (iI ((t + 1 : Nat) : Int))] [] (st h I J) = _ := i0
    rw [e_M_numberOf_4, yck (bT_88 m), m_many m en, kI_o, if_pos (by omega), wr_id (x := (t : Int) + 1) (by omega) (by omega), show (t : Int) + 1 = ((t + 1 : Nat) : Int) by omega, i0']
    exact i1
theorem s_numOf (m : ShM h 88) (en : I 90 183 = (n : Int)) (hn : n ≤ 7) (ar : ArM I n a) : rn (d + 2) 256 [iR (some 88)] (st h I J) = some (oI (numA n a : Nat), st h I J) := by
  rw [r_M_numberOf, e_M_numberOf]
  have := l_num4 (d := d) (J := J) m en hn ar n 0 (999998 - 10 * n) (by omega)
  rw [show 999998 - 10 * n + 10 * n + 1 = 999999 by omega] at this
  exact this
theorem decS_lt {m c : Nat} (b : Nat → Nat) {j : Nat} (hm : m < n) (hc : c < n - m) (hb : ∀ i, m < i → i < n → b i + (m + 1) < n) (j1 : m ≤ j) (j2 : j < n) : decS n m c b j + m < n := by
  unfold decS
  by_cases q : j = m
  · rw [if_pos q]
    omega
  · have := hb j (by omega) j2
    rw [if_neg q, if_pos (by omega)]
    split <;> omega
theorem l_ord41 (m : ShM h 88) (hn : n ≤ 7) {t c : Nat} (ht : t < n) {x : Nat → Nat} {num : Int} (hxb : ∀ i, t < i → i < n → x i < 7) : ∀ (k j f : Nat) (I : Nat → Nat → Int), j + k = n → t < j → I 90 183 = (n : Int) → I 111 t = (c : Int) → (∀ i, t < i → i < n → I 111 i = if i < j then ((decS n t c x i : Nat) : Int) else (x i : Int)) → ∃ I1, (∀ b, b ≠ 111 → I1 b = I b) ∧ (∀ i, i < t → I1 111 i = I 111 i) ∧ (∀ i, t ≤ i → i < n → I1 111 i = ((decS n t c x i : Nat) : Int)) ∧ lp (d + 1) 257 (f + k + 1) 41 [some (iR (some 88)), none, some (iI num), some (iI (t : Int)), none, some (iI (j : Int))] [] (st h I J) = lp (d + 1) 257 f 9 [some (iR (some 88)), none, some (iI num), some (iI ((t : Int) - 1)), none, none] [] (st h I1 J) := by
  intro k
  induction k with
  | zero =>
    intro j f I hj htj en e1 e2
    refine ⟨I, fun _ _ => rfl, fun _ _ => rfl, fun i i1 i2 => ?_, ?_⟩
    · by_cases q : i = t
      · rw [q, e1]
        unfold decS
        rw [if_pos rfl]
      · rw [e2 i (by omega) i2, if_pos (by omega)]
    · rw [Nat.add_zero, e_M_laysOrder_41, yck (bT_88 m), m_many m en, kI_o, if_neg (by omega), wr_id (x := (t : Int) + (-1)) (by omega) (by omega)]
      rfl
  | succ k ih =>
    intro j f I hj htj en e1 e2
    have ej : I 111 j = (x j : Int) := by rw [e2 j htj (by omega), if_neg (by omega)]
    have hd : decS n t c x j = if x j < c then x j else x j + 1 := by
      unfold decS
      rw [if_neg (by omega), if_pos (by omega)]
    have hb := hxb j htj (by omega)
    obtain ⟨I1, a1, a2, a3, a4⟩ := ih (j + 1) f (up I 111 j ((decS n t c x j : Nat) : Int)) (by omega) (by omega) (by rw [up_na (by omega)]; exact en) (by rw [up_ni (by omega)]; exact e1) (fun i i1 i2 => by
      rw [up_at]
      by_cases q : i = j
      · rw [if_pos q, if_pos (by omega), q]
      · rw [if_neg q, e2 i i1 i2]
        by_cases w : i < j
        · rw [if_pos w, if_pos (by omega)]
        · rw [if_neg w, if_neg (by omega)])
    refine ⟨I1, fun b hb => (a1 b hb).trans (up_na hb), fun i hi => (a2 i hi).trans (up_ni (by omega)), a3, ?_⟩
    have w1 : wr ((j : Int) + 1) = ((j + 1 : Nat) : Int) := by rw [wr_id (by omega) (by omega)]; omega
    rw [show f + (k + 1) + 1 = (f + k + 1) + 1 by omega, e_M_laysOrder_41, yck (bT_88 m), m_many m en, kI_o, if_pos (by omega), ygR (bT_88 m) (bR_42 m), xB_s, yaIv (i := j) (bT_111 m) (bL_111 m) rfl (by omega) ej, ygR (bT_88 m) (bR_42 m), xB_s, yaIv (i := j) (bT_111 m) (bL_111 m) rfl (by omega) ej, ygR (bT_88 m) (bR_42 m), xB_s, yaIv (i := t) (bT_111 m) (bL_111 m) rfl (by omega) e1]
    by_cases q : x j < c
    · rw [if_pos q] at hd
      rw [hd] at a4
      rw [if_pos (by omega), xB_s, zSI (i := j) (bT_111 m) (by omega) (bL_111 m) rfl (by omega), wr_id (x := (x j : Int) + 0) (by omega) (by omega), Int.add_zero, w1]
      exact a4
    · rw [if_neg q] at hd
      rw [hd] at a4
      rw [if_neg (by omega), xB_s, zSI (i := j) (bT_111 m) (by omega) (bL_111 m) rfl (by omega), wr_id (x := (x j : Int) + 1) (by omega) (by omega), show (x j : Int) + 1 = ((x j + 1 : Nat) : Int) by omega, w1]
      exact a4
theorem l_ord9 (m : ShM h 88) (hn : n ≤ 7) : ∀ (t f num : Nat) (x : Nat → Nat) (I : Nat → Nat → Int), t ≤ n → num ≤ 5040 → I 90 183 = (n : Int) → (∀ i, t ≤ i → i < n → I 111 i = (x i : Int) ∧ x i + t < n) → ∃ I1, (∀ b, b ≠ 111 → I1 b = I b) ∧ ArM I1 n (decL n t num x) ∧ lp (d + 1) 257 (f + 10 * t + 1) 9 [some (iR (some 88)), none, some (iI (num : Int)), some (iI ((t : Int) - 1)), none, none] [] (st h I J) = some (o0, st h I1 J) := by
  intro t
  induction t with
  | zero =>
    intro f num x I ht hnum en e
    refine ⟨I, fun _ _ => rfl, fun i hi => (e i (by omega) hi).1, ?_⟩
    rw [show f + 10 * 0 + 1 = f + 1 by omega, e_M_laysOrder_9, if_pos (by omega)]
  | succ t ih =>
    intro f num x I ht hnum en e
    obtain ⟨D, eD⟩ : ∃ D : Nat, D = n - t := ⟨_, rfl⟩
    have em : Int.tmod (num : Int) (D : Int) = ((num % D : Nat) : Int) := by
      rw [Int.tmod_eq_emod_of_nonneg (by omega)]
      exact (Int.natCast_emod num D).symm
    have ed : Int.tdiv (num : Int) (D : Int) = ((num / D : Nat) : Int) := by
      rw [Int.tdiv_eq_ediv_of_nonneg (by omega)]
      exact (Int.natCast_ediv num D).symm
    have hm : num % D < D := Nat.mod_lt _ (by omega)
    have hdv : num / D ≤ num := Nat.div_le_self _ _
    have hd0 : 0 ≤ ((num / D : Nat) : Int) := Int.natCast_nonneg _
    obtain ⟨I2, a1, a2, a3, a4⟩ := l_ord41 (d := d) (h := h) (J := J) (n := n) m hn (t := t) (c := num % D) (by omega) (x := x) (num := ((num / D : Nat) : Int)) (fun i i1 i2 => by have := (e i (by omega) i2).2; omega) (n - (t + 1)) (t + 1) (f + 10 * t + 1 + (8 - (n - (t + 1)))) (up I 111 t ((num % D : Nat) : Int)) (by omega) (by omega) (by rw [up_na (by omega)]; exact en) (up_eq _ _ _ _) (fun i i1 i2 => by rw [up_ni (by omega), if_neg (by omega)]; exact (e i (by omega) i2).1)
    rw [show f + 10 * t + 1 + (8 - (n - (t + 1))) + (n - (t + 1)) + 1 = f + 10 * (t + 1) by omega] at a4
    obtain ⟨I1, b1, b2, b3⟩ := ih (f + (8 - (n - (t + 1)))) (num / D) (decS n t (num % D) x) I2 (by omega) (by omega) (by rw [a1 90 (by omega), up_na (by omega)]; exact en) (fun i i1 i2 => ⟨a3 i i1 i2, decS_lt x (by omega) (by omega) (fun i i1 i2 => (e i (by omega) i2).2) i1 i2⟩)
    rw [show f + (8 - (n - (t + 1))) + 10 * t + 1 = f + 10 * t + 1 + (8 - (n - (t + 1))) by omega] at b3
    refine ⟨I1, fun b hb => by rw [b1 b hb, a1 b hb, up_na hb], ?_, ?_⟩
    · show ArM I1 n (decL n t (num / (n - t)) (decS n t (num % (n - t)) x))
      rw [← eD]
      exact b2
    · rw [show (((t + 1 : Nat) : Int) - 1) = (t : Int) by omega, e_M_laysOrder_9, if_neg (by omega), yck (bT_88 m), m_many m en, kI_o, ygR (bT_88 m) (bR_42 m), wr_id (x := (n : Int) - (t : Int)) (by omega) (by omega), show (n : Int) - (t : Int) = (D : Int) by omega, xmI_ok (by omega), em, wr_id (x := ((num % D : Nat) : Int)) (by omega) (by omega), xB_s, zSI (i := t) (bT_111 m) (by omega) (bL_111 m) rfl (by omega), xdI_ok (by omega), ed, wr_id (x := ((num / D : Nat) : Int)) (by omega) (by omega), wr_id (x := (t : Int) + 1) (by omega) (by omega), show (t : Int) + 1 = ((t + 1 : Nat) : Int) by omega, a4]
      exact b3
/-- the arrangement of a number laid down -/
theorem s_ordOf (m : ShM h 88) (en : I 90 183 = (n : Int)) (hn : n ≤ 7) (p : PermN n a) : ∃ I1, (∀ b, b ≠ 111 → I1 b = I b) ∧ ArM I1 n a ∧ rn (d + 2) 257 [iR (some 88), iI (numA n a : Nat)] (st h I J) = some (o0, st h I1 J) := by
  have hl := numA_lt (a := a) hn
  obtain ⟨I1, a1, a2, a3⟩ := l_ord9 (d := d) (h := h) (J := J) (n := n) m hn n (999998 - 10 * n) (numA n a) (fun _ => 0) I (Nat.le_refl _) (by omega) en (fun i i1 i2 => by omega)
  rw [show 999998 - 10 * n + 10 * n + 1 = 999999 by omega] at a3
  refine ⟨I1, a1, fun i hi => by rw [a2 i hi, numA_dec p (fun _ => 0) i hi], ?_⟩
  rw [r_M_laysOrder, e_M_laysOrder, yck (bT_88 m), m_many m en, kI_o, wr_id (x := (n : Int) - 1) (by omega) (by omega)]
  exact a3
end P98ze
