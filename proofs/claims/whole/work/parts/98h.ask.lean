/-! ask, bargains (by program, wip/whole/gen98h.py) -/
theorem both_ok : ((List.range 128).all fun u => (List.range 7).all fun a => (List.range 7).all fun b => decide (iand (iand (ishr (u : Int) (a : Int)) (ishr (u : Int) (b : Int))) 1 = if u.testBit a = true ∧ u.testBit b = true then 1 else 0)) = true := by decide +kernel
theorem bothI {u a b : Nat} (hu : u < 128) (ha : a < 7) (hb : b < 7) : iand (iand (ishr (u : Int) (a : Int)) (ishr (u : Int) (b : Int))) 1 = if u.testBit a = true ∧ u.testBit b = true then 1 else 0 :=
  of_decide_eq_true (List.all_eq_true.mp (List.all_eq_true.mp (List.all_eq_true.mp both_ok u (List.mem_range.mpr hu)) a (List.mem_range.mpr ha)) b (List.mem_range.mpr hb))
/-- how many of the set S like x as a does, of the first b -/
noncomputable def alN (K : Nat → Int) (L : LwV) (S x a : Nat) : Nat → Nat
  | 0 => 0
  | b + 1 => alN K L S x a b + (if S.testBit b = true ∧ likeK K L (a : Int) (x : Int) = likeK K L (b : Int) (x : Int) then 1 else 0)
noncomputable def moN (K : Nat → Int) (L : LwV) (S x n : Nat) : Nat → Nat
  | 0 => 0
  | a + 1 => if S.testBit a = true then max (moN K L S x n a) (alN K L S x a n) else moN K L S x n a
noncomputable def bqN (K : Nat → Int) (L : LwV) (S n : Nat) : Nat → Nat
  | 0 => 0
  | c + 1 => if moN K L S c n n < moN K L S (bqN K L S n c) n n then c else bqN K L S n c
theorem alN_le (K : Nat → Int) (L : LwV) (S x a : Nat) : ∀ b, alN K L S x a b ≤ b
  | 0 => Nat.le_refl _
  | b + 1 => by
    have := alN_le K L S x a b
    show alN K L S x a b + _ ≤ b + 1
    split <;> omega
theorem moN_le (K : Nat → Int) (L : LwV) (S x n : Nat) : ∀ a, moN K L S x n a ≤ n
  | 0 => Nat.zero_le _
  | a + 1 => by
    have h1 := moN_le K L S x n a
    have h2 := alN_le K L S x a n
    show (if S.testBit a = true then max (moN K L S x n a) (alN K L S x a n) else moN K L S x n a) ≤ n
    split <;> omega
section P98h
variable {h : IH} {I I0 I1 I2 I' J : Nat → Nat → Int} {k L d n : Nat} {xs : Nat → Int32} {K K' : Nat → Int} {LW : Nat → Nat × (Nat → Cls)} {LV : LwV}
theorem l_alT (s : ShT h) {I : Nat → Nat → Int} (hn : n ≤ 7) (hS : LkOk I n K LV) {S : Nat} (hSb : S < 128) {x a : Nat} (hx : x < n) (ha : a < n) (mo : Nat) (hmo : mo ≤ 7) : ∀ (q b f c : Nat), b + q = n → c ≤ b → (c = if S.testBit a = true then alN K LV S x a b else 0) → lp d 45 (f + 2 * q + 2) 18 [some (iR (some 76)), some (iI (n : Int)), some (iI (S : Int)), some (iI (x : Int)), some (iI (mo : Int)), some (iI (a : Int)), some (iI (c : Int)), some (iI (b : Int)), none] [] (st h I J) = lp d 45 f 6 [some (iR (some 76)), some (iI (n : Int)), some (iI (S : Int)), some (iI (x : Int)), some (iI (if S.testBit a = true then max mo (alN K LV S x a n) else mo : Nat)), some (iI ((a + 1 : Nat) : Int)), none, none, none] [] (st h I J) := by
  intro q
  induction q with
  | zero =>
    intro b f c hb hc ec
    rw [show f + 2 * 0 + 2 = (f + 1) + 1 by omega, e_Pa_mostAlike_18, if_neg (by omega), e_Pa_mostAlike_96, wr_id (x := (a : Int) + 1) (by omega) (by omega), show (a : Int) + 1 = ((a + 1 : Nat) : Int) by omega, show imax (mo : Int) (c : Int) = ((if S.testBit a = true then max mo (alN K LV S x a n) else mo : Nat) : Int) by
      rw [ec, show b = n by omega]
      unfold imax
      by_cases z : S.testBit a = true
      · rw [if_pos z, if_pos z]
        split <;> omega
      · rw [if_neg z, if_neg z]
        split <;> omega]
  | succ q ih =>
    intro b f c hb hc ec
    have hB := bothI hSb (show a < 7 by omega) (show b < 7 by omega)
    have eal : alN K LV S x a (b + 1) = alN K LV S x a b + (if S.testBit b = true ∧ likeK K LV (a : Int) (x : Int) = likeK K LV (b : Int) (x : Int) then 1 else 0) := rfl
    have va := hS a x ha hx
    have vb := hS b x (by omega) hx
    have i0 := ih (b + 1) f c (by omega) (by omega)
    have i1 := ih (b + 1) f (c + 1) (by omega) (by omega)
    rw [eal] at i0 i1
    rw [show f + 2 * (q + 1) + 2 = (f + 2 * q + 2 + 1) + 1 by omega, e_Pa_mostAlike_18, if_pos (by omega), hB]
    by_cases z : S.testBit a = true ∧ S.testBit b = true
    · rw [if_pos z, if_pos rfl, e_Pa_mostAlike_44, if_neg (by omega), ygR (aT_76 s) (aR_76_0 s), xB_s, wr_id (x := (a : Int) * 7) (by omega) (by omega), wr_id (x := (a : Int) * 7 + (x : Int)) (by omega) (by omega), yaIv (i := 7 * a + x) (aT_77 s) (aL_77 s) (by omega) (by omega) va, ygR (aT_76 s) (aR_76_0 s), xB_s, wr_id (x := (b : Int) * 7) (by omega) (by omega), wr_id (x := (b : Int) * 7 + (x : Int)) (by omega) (by omega), yaIv (i := 7 * b + x) (aT_77 s) (aL_77 s) (by omega) (by omega) vb, wr_id (x := (b : Int) + 1) (by omega) (by omega), show (b : Int) + 1 = ((b + 1 : Nat) : Int) by omega]
      rw [if_pos z.1] at ec i0 i1
      by_cases y : likeK K LV (a : Int) (x : Int) = likeK K LV (b : Int) (x : Int)
      · rw [if_pos ⟨z.2, y⟩] at i1
        rw [if_pos y, wr_id (x := (c : Int) + 1) (by omega) (by omega), show (c : Int) + 1 = ((c + 1 : Nat) : Int) by omega, i1 (by omega)]
      · rw [if_neg (fun w => y w.2)] at i0
        rw [if_neg y, i0 (by omega)]
    · rw [if_neg z, if_neg (by omega), e_Pa_mostAlike_44, if_pos rfl, wr_id (x := (b : Int) + 1) (by omega) (by omega), show (b : Int) + 1 = ((b + 1 : Nat) : Int) by omega]
      refine i0 ?_
      by_cases w : S.testBit a = true
      · rw [if_pos w] at ec ⊢
        rw [if_neg (fun u => z ⟨w, u.1⟩)]
        exact ec
      · rw [if_neg w] at ec ⊢
        exact ec
theorem l_moT (s : ShT h) {I : Nat → Nat → Int} (hn : n ≤ 7) (hS : LkOk I n K LV) {S : Nat} (hSb : S < 128) {x : Nat} (hx : x < n) : ∀ (q a f : Nat), a + q = n → lp d 45 (f + 20 * q + 1) 6 [some (iR (some 76)), some (iI (n : Int)), some (iI (S : Int)), some (iI (x : Int)), some (iI (moN K LV S x n a : Nat)), some (iI (a : Int)), none, none, none] [] (st h I J) = some (oI (moN K LV S x n n : Nat), st h I J) := by
  intro q
  induction q with
  | zero =>
    intro a f ha
    rw [show f + 20 * 0 + 1 = f + 1 by omega, e_Pa_mostAlike_6, if_neg (by omega), show a = n by omega]
  | succ q ih =>
    intro a f ha
    have hm := moN_le K LV S x n a
    have h1 := l_alT (d := d) (J := J) s hn hS hSb hx (a := a) (by omega) (moN K LV S x n a) (by omega) n 0 (f + 20 * q + 1 + (17 - 2 * n)) 0 (by omega) (by omega) (by
      show 0 = if S.testBit a = true then 0 else 0
      rw [ite_self])
    rw [show f + 20 * q + 1 + (17 - 2 * n) + 2 * n + 2 = f + 20 * (q + 1) by omega] at h1
    have h1' : lp d 45 (f + 20 * (q + 1)) 18 [some (iR (some 76)), some (iI (n : Int)), some (iI (S : Int)), some (iI (x : Int)), some (iI (moN K LV S x n a : Nat)), some (iI (a : Int)), some (iI 0), some (iI 0), none] [] (st h I J) = _ := h1
    have i0 := ih (a + 1) (f + (17 - 2 * n)) (by omega)
    rw [show f + (17 - 2 * n) + 20 * q + 1 = f + 20 * q + 1 + (17 - 2 * n) by omega] at i0
    rw [e_Pa_mostAlike_6, if_pos (by omega), h1']
    exact i0
theorem t_mostAlike (s : ShT h) {I : Nat → Nat → Int} (hn : n ≤ 7) (hS : LkOk I n K LV) {S : Nat} (hSb : S < 128) {x : Nat} (hx : x < n) : rn (d + 1) 45 [iR (some 76), iI (n : Int), iI (S : Int), iI (x : Int)] (st h I J) = some (oI (moN K LV S x n n : Nat), st h I J) := by
  have i0 := l_moT (d := d) (J := J) s hn hS hSb hx n 0 (999998 - 20 * n) (by omega)
  rw [show 999998 - 20 * n + 20 * n + 1 = 999999 by omega] at i0
  have i0' : lp d 45 999999 6 [some (iR (some 76)), some (iI (n : Int)), some (iI (S : Int)), some (iI (x : Int)), some (iI 0), some (iI 0), none, none, none] [] (st h I J) = _ := i0
  rw [r_Pa_mostAlike, e_Pa_mostAlike, i0']
theorem bqN_lt (hn : 0 < n) (S : Nat) : ∀ c, c ≤ n → bqN K LV S n c < n
  | 0, _ => hn
  | c + 1, hc => by
    have := bqN_lt hn S c (by omega)
    show (if moN K LV S c n n < moN K LV S (bqN K LV S n c) n n then c else bqN K LV S n c) < n
    split <;> omega
theorem l_bqT (s : ShT h) {I : Nat → Nat → Int} (hn : n ≤ 7) (h0 : 0 < n) (hS : LkOk I n K LV) {S : Nat} (hSb : S < 128) : ∀ (q c f : Nat), c + q = n → lp (d + 1) 44 (f + q + 1) 5 [some (iR (some 76)), some (iI (n : Int)), some (iI (S : Int)), some (iI (bqN K LV S n c : Nat)), some (iI (c : Int))] [] (st h I J) = some (oI (bqN K LV S n n : Nat), st h I J) := by
  intro q
  induction q with
  | zero =>
    intro c f hc
    rw [Nat.add_zero, e_Pa_bestQuestion_5, if_neg (by omega), show c = n by omega]
  | succ q ih =>
    intro c f hc
    have hb := bqN_lt (K := K) (LV := LV) h0 S c (by omega)
    have i0 := ih (c + 1) f (by omega)
    have eb : bqN K LV S n (c + 1) = if moN K LV S c n n < moN K LV S (bqN K LV S n c) n n then c else bqN K LV S n c := rfl
    rw [eb] at i0
    rw [show f + (q + 1) + 1 = (f + q + 1) + 1 by omega, e_Pa_bestQuestion_5, if_pos (by omega), yck (aT_76 s), t_mostAlike s hn hS hSb (x := c) (by omega), kI_o, yck (aT_76 s), t_mostAlike s hn hS hSb hb, kI_o, wr_id (x := (c : Int) + 1) (by omega) (by omega), show (c : Int) + 1 = ((c + 1 : Nat) : Int) by omega]
    by_cases z : moN K LV S c n n < moN K LV S (bqN K LV S n c) n n
    · rw [if_pos z] at i0
      rw [if_pos (by omega), i0]
    · rw [if_neg z] at i0
      rw [if_neg (by omega), i0]
theorem t_bestQ (s : ShT h) {I : Nat → Nat → Int} (hn : n ≤ 7) (h0 : 0 < n) (hS : LkOk I n K LV) {S : Nat} (hSb : S < 128) : rn (d + 2) 44 [iR (some 76), iI (n : Int), iI (S : Int)] (st h I J) = some (oI (bqN K LV S n n : Nat), st h I J) := by
  have e1 : bqN K LV S n 1 = 0 := by
    show (if moN K LV S 0 n n < moN K LV S 0 n n then 0 else 0) = 0
    rw [ite_self]
  have i0 := l_bqT (d := d) (J := J) s hn h0 hS hSb (n - 1) 1 (999999 - n) (by omega)
  rw [show 999999 - n + (n - 1) + 1 = 999999 by omega, e1] at i0
  have i0' : lp (d + 1) 44 999999 5 [some (iR (some 76)), some (iI (n : Int)), some (iI (S : Int)), some (iI 0), some (iI 1)] [] (st h I J) = _ := i0
  rw [r_Pa_bestQuestion, e_Pa_bestQuestion, i0']
/-- the reference -/
theorem l_alM (m : ShM h 88) (hn : n ≤ 7) {I : Nat → Nat → Int} (en : I 90 183 = (n : Int)) (hW : WmOk I n (okM K LV 0) (wM K LV 0 n)) {S : Nat} (hSb : S < 128) {x a : Nat} (hx : x < n) (ha : a < n) (mo : Nat) (hmo : mo ≤ 7) : ∀ (q b f : Nat), b + q = n → lp (d + 1) 274 (f + q + 1) 20 [some (iR (some 88)), some (iI (S : Int)), some (iI (x : Int)), some (iI (mo : Int)), some (iI (a : Int)), some (iI (alN K LV S x a b : Nat)), some (iI (b : Int))] [] (st h I J) = lp (d + 1) 274 f 5 [some (iR (some 88)), some (iI (S : Int)), some (iI (x : Int)), some (iI (if S.testBit a = true then max mo (alN K LV S x a n) else mo : Nat)), some (iI ((a + 1 : Nat) : Int)), none, none] [] (st h I J) := by
  have wv : ∀ b, b < n → I 106 (7 * b + x) = likeK K LV (b : Int) (x : Int) := fun b hb => by
    rw [(hW b x hb hx).2]
    unfold wM
    rw [if_pos ⟨hb, hx⟩, if_pos rfl]
  intro q
  induction q with
  | zero =>
    intro b f hb
    rw [Nat.add_zero, e_M_mostAlike_20, yck (bT_88 m), m_many m en, kI_o, if_neg (by omega), s_isIn, kI_o, shrI hSb (show a < 7 by omega), wr_id (x := (a : Int) + 1) (by omega) (by omega), show (a : Int) + 1 = ((a + 1 : Nat) : Int) by omega, show b = n by omega]
    by_cases z : S.testBit a = true
    · rw [if_pos z, if_pos rfl, if_neg (by omega), s_greater, kI_o, if_pos z, show (if (mo : Int) ≤ (alN K LV S x a n : Nat) then ((alN K LV S x a n : Nat) : Int) else (mo : Int)) = ((max mo (alN K LV S x a n) : Nat) : Int) by split <;> omega]
    · rw [if_neg z, if_neg (show ¬ (0 : Int) = 1 by omega), if_pos rfl, if_neg z]
  | succ q ih =>
    intro b f hb
    have hl := alN_le K LV S x a b
    have i0 := ih (b + 1) f (by omega)
    have eal : alN K LV S x a (b + 1) = alN K LV S x a b + (if S.testBit b = true ∧ likeK K LV (a : Int) (x : Int) = likeK K LV (b : Int) (x : Int) then 1 else 0) := rfl
    rw [eal] at i0
    rw [show f + (q + 1) + 1 = (f + q + 1) + 1 by omega, e_M_mostAlike_20, yck (bT_88 m), m_many m en, kI_o, if_pos (by omega), s_isIn, kI_o, shrI hSb (show b < 7 by omega), wr_id (x := (b : Int) + 1) (by omega) (by omega), show (b : Int) + 1 = ((b + 1 : Nat) : Int) by omega, wr_id (x := ((alN K LV S x a b : Nat) : Int) + 0) (by omega) (by omega), wr_id (x := ((alN K LV S x a b : Nat) : Int) + 1) (by omega) (by omega), Int.add_zero]
    by_cases z : S.testBit b = true
    · rw [if_pos z, if_pos rfl, if_neg (by omega), ygR (bT_88 m) (bR_35 m), s_pairAt _ (by omega) (by omega), kI_o, xB_s, yaIv (i := 7 * a + x) (bT_106 m) (bL_106 m) (by omega) (by omega) (wv a ha), ygR (bT_88 m) (bR_35 m), s_pairAt _ (by omega) (by omega), kI_o, xB_s, yaIv (i := 7 * b + x) (bT_106 m) (bL_106 m) (by omega) (by omega) (wv b (by omega))]
      by_cases y : likeK K LV (a : Int) (x : Int) = likeK K LV (b : Int) (x : Int)
      · rw [if_pos ⟨z, y⟩] at i0
        rw [if_pos y, show ((alN K LV S x a b : Nat) : Int) + 1 = ((alN K LV S x a b + 1 : Nat) : Int) by omega, i0]
      · rw [if_neg (fun w => y w.2)] at i0
        rw [if_neg y]
        exact i0
    · rw [if_neg (fun w => z w.1)] at i0
      rw [if_neg z, if_neg (show ¬ (0 : Int) = 1 by omega), if_pos rfl]
      exact i0
theorem l_moM (m : ShM h 88) (hn : n ≤ 7) {I : Nat → Nat → Int} (en : I 90 183 = (n : Int)) (hW : WmOk I n (okM K LV 0) (wM K LV 0 n)) {S : Nat} (hSb : S < 128) {x : Nat} (hx : x < n) : ∀ (q a f : Nat), a + q = n → lp (d + 1) 274 (f + 20 * q + 1) 5 [some (iR (some 88)), some (iI (S : Int)), some (iI (x : Int)), some (iI (moN K LV S x n a : Nat)), some (iI (a : Int)), none, none] [] (st h I J) = some (oI (moN K LV S x n n : Nat), st h I J) := by
  intro q
  induction q with
  | zero =>
    intro a f ha
    rw [show f + 20 * 0 + 1 = f + 1 by omega, e_M_mostAlike_5, yck (bT_88 m), m_many m en, kI_o, if_neg (by omega), show a = n by omega]
  | succ q ih =>
    intro a f ha
    have hm := moN_le K LV S x n a
    have h1 := l_alM (d := d) (J := J) m hn en hW hSb hx (a := a) (by omega) (moN K LV S x n a) (by omega) n 0 (f + 20 * q + 1 + (18 - n)) (by omega)
    rw [show f + 20 * q + 1 + (18 - n) + n + 1 = f + 20 * (q + 1) by omega] at h1
    have h1' : lp (d + 1) 274 (f + 20 * (q + 1)) 20 [some (iR (some 88)), some (iI (S : Int)), some (iI (x : Int)), some (iI (moN K LV S x n a : Nat)), some (iI (a : Int)), some (iI 0), some (iI 0)] [] (st h I J) = _ := h1
    have i0 := ih (a + 1) (f + (18 - n)) (by omega)
    rw [show f + (18 - n) + 20 * q + 1 = f + 20 * q + 1 + (18 - n) by omega] at i0
    rw [e_M_mostAlike_5, yck (bT_88 m), m_many m en, kI_o, if_pos (by omega), h1']
    exact i0
theorem m_mostAlike (m : ShM h 88) (hn : n ≤ 7) {I : Nat → Nat → Int} (en : I 90 183 = (n : Int)) (hW : WmOk I n (okM K LV 0) (wM K LV 0 n)) {S : Nat} (hSb : S < 128) {x : Nat} (hx : x < n) : rn (d + 2) 274 [iR (some 88), iI (S : Int), iI (x : Int)] (st h I J) = some (oI (moN K LV S x n n : Nat), st h I J) := by
  have i0 := l_moM (d := d) (J := J) m hn en hW hSb hx n 0 (999998 - 20 * n) (by omega)
  rw [show 999998 - 20 * n + 20 * n + 1 = 999999 by omega] at i0
  have i0' : lp (d + 1) 274 999999 5 [some (iR (some 88)), some (iI (S : Int)), some (iI (x : Int)), some (iI 0), some (iI 0), none, none] [] (st h I J) = _ := i0
  rw [r_M_mostAlike, e_M_mostAlike, i0']
theorem l_askM (m : ShM h 88) (hn : n ≤ 7) (h0 : 0 < n) {I : Nat → Nat → Int} (en : I 90 183 = (n : Int)) (hW : WmOk I n (okM K LV 0) (wM K LV 0 n)) {S : Nat} (hSb : S < 128) (hS0 : S ≠ 0) {w : Int} : ∀ (q c f : Nat) (fo le : Int), c + q = n → (c = 0 → fo = -1 ∧ le = 1000000) → (0 < c → fo = (bqN K LV S n c : Nat) ∧ le = (moN K LV S (bqN K LV S n c) n n : Nat)) → lp (d + 2) 275 (f + q + 1) 30 [some (iR (some 88)), some (iI w), some (iI (S : Int)), some (iI fo), some (iI le), some (iI (c : Int)), none] [] (st h I J) = some (oI (if w = 0 then ((bqN K LV S n n : Nat) : Int) else ((moN K LV S (bqN K LV S n n) n n : Nat) : Int)), st h I J) := by
  intro q
  induction q with
  | zero =>
    intro c f fo le hc _ e2
    obtain ⟨rfl, rfl⟩ := e2 (by omega)
    rw [Nat.add_zero, e_M_ask_30, yck (bT_88 m), m_many m en, kI_o, if_neg (by omega), if_neg (by omega), show c = n by omega]
    by_cases z : w = 0
    · rw [if_pos z, if_pos z]
    · rw [if_neg z, if_neg z]
  | succ q ih =>
    intro c f fo le hc e1 e2
    have hm := moN_le K LV S c n n
    have eb : bqN K LV S n (c + 1) = if moN K LV S c n n < moN K LV S (bqN K LV S n c) n n then c else bqN K LV S n c := rfl
    rw [show f + (q + 1) + 1 = (f + q + 1) + 1 by omega, e_M_ask_30, yck (bT_88 m), m_many m en, kI_o, if_pos (by omega), if_neg (by omega), yck (bT_88 m), m_mostAlike m hn en hW hSb (x := c) (by omega), kI_o, wr_id (x := (c : Int) + 1) (by omega) (by omega), show (c : Int) + 1 = ((c + 1 : Nat) : Int) by omega]
    by_cases z0 : c = 0
    · obtain ⟨rfl, rfl⟩ := e1 z0
      have e0 : bqN K LV S n (c + 1) = c := by
        rw [eb, z0]
        show (if moN K LV S 0 n n < moN K LV S 0 n n then 0 else 0) = 0
        rw [ite_self]
      rw [if_pos (by omega)]
      exact ih (c + 1) f _ _ (by omega) (fun z => by omega) fun _ => by rw [e0]; exact ⟨rfl, rfl⟩
    · obtain ⟨rfl, rfl⟩ := e2 (by omega)
      by_cases z : moN K LV S c n n < moN K LV S (bqN K LV S n c) n n
      · rw [if_pos z] at eb
        rw [if_pos (by omega)]
        exact ih (c + 1) f _ _ (by omega) (fun z => by omega) fun _ => by rw [eb]; exact ⟨rfl, rfl⟩
      · rw [if_neg z] at eb
        rw [if_neg (by omega)]
        exact ih (c + 1) f _ _ (by omega) (fun z => by omega) fun _ => by rw [eb]; exact ⟨rfl, rfl⟩
theorem C_ask (v : Inv L xs k h I) (hk : k < 1000) (x : Int) : Cal L xs k h I J 131 275 [iI x] := by
  obtain ⟨LW, o⟩ := v.now
  have s := v.t
  have m := v.m
  have kk := o.2.2.1
  have hn := kk.1
  have hL := lvOf_ok kk o.2.2.2.1
  have E : ∀ I1, TnQ I1 I → I1 90 = I 90 := fun I1 t => t 90 (by omega) (by omega) (by omega) (by omega)
  obtain ⟨n, en⟩ : ∃ n : Nat, I 90 183 = (n : Int) := ⟨(I 90 183).toNat, by omega⟩
  obtain ⟨c, ec⟩ : ∃ c : Nat, I 90 184 = (c : Int) := ⟨(I 90 184).toNat, by have := kk.2.2.2.2.1.1; omega⟩
  by_cases cx : x = 0 ∨ x = 1
  case neg =>
    refine Cal.q v hk (-1) (fun d => ⟨I, J, TnQ.rf I, ?_⟩) fun d I1 J1 t => ⟨I1, J1, MnQ.rf I1, ?_⟩
    · rw [r_T_ask, e_T_ask, if_neg (fun z => cx (Or.inl z)), if_neg (fun z => cx (Or.inr z))]
    · rw [r_M_ask, e_M_ask, s_lies (d := d + 98), kI_o, if_neg (show ¬ ((0 : Int) ≤ x ∧ x ≤ 1) by omega), if_pos rfl]
  obtain ⟨S, eS⟩ : ∃ S, S = mkB (fun t => soB (I 90) (lvOf (I 90) LW) t c) n := ⟨_, rfl⟩
  have hSb : S < 128 := by rw [eS]; exact mkB_128 _ (by omega)
  refine Cal.q v hk (if S = 0 then -1 else if x = 0 then ((bqN (I 90) (lvOf (I 90) LW) S n n : Nat) : Int) else ((moN (I 90) (lvOf (I 90) LW) S (bqN (I 90) (lvOf (I 90) LW) S n n) n n : Nat) : Int)) (fun d => ?_) fun d I1 J1 t => ?_
  · obtain ⟨I1, a1, a2, a3, a4⟩ := s_fillL (d := d + 94) (J := J) o en
    have b2 := t_possible (d := d + 98) (J := J) s (o.pp a1) en ec a4
    rw [← eS] at b2
    refine ⟨I1, J, a1.tq, ?_⟩
    have e11 : ∀ f, lp (d + 99) 131 (f + 1) 11 [some (iR (some 3)), some (iI x), none, none] [] (st h I J) = some (oI (if S = 0 then -1 else if x = 0 then ((bqN (I 90) (lvOf (I 90) LW) S n n : Nat) : Int) else ((moN (I 90) (lvOf (I 90) LW) S (bqN (I 90) (lvOf (I 90) LW) S n n) n n : Nat) : Int)), st h I1 J) := fun f => by
      rw [e_T_ask_11, ygR (aT_3 s) (aR_3_11 s), ygR (aT_3 s) (aR_3_0 s), ygR (aT_3 s) (aR_3_6 s), xB_s, yck (aT_76 s), a3, kV_o, ygR (aT_3 s) (aR_3_11 s), ygR (aT_3 s) (aR_3_0 s), xB_s, yck (aT_76 s), b2, kI_o]
      by_cases z : S = 0
      · rw [if_pos (by omega), if_pos z]
      have h0 : 0 < n := by
        apply Classical.byContradiction
        intro q
        have : n = 0 := by omega
        rw [this] at eS
        exact z eS
      have e4 : I1 4 0 = (n : Int) := by rw [a1 4 (by omega) (by omega), o.2.1.1, en]
      rw [if_neg (by omega), if_neg z, ygR (aT_3 s) (aR_3_11 s), ygR (aT_3 s) (aR_3_0 s), xB_s, ygIv (aT_4 s) e4, xB_s, yck (aT_76 s), t_bestQ (d := d + 97) s (by omega) h0 a4 hSb, kI_o]
      by_cases y : x = 0
      · rw [if_pos y, if_pos y]
      · rw [if_neg y, if_neg y, ygR (aT_3 s) (aR_3_11 s), ygR (aT_3 s) (aR_3_0 s), xB_s, ygIv (aT_4 s) e4, xB_s, yck (aT_76 s), t_mostAlike (d := d + 98) s (by omega) a4 hSb (bqN_lt h0 S n (Nat.le_refl n)), kI_o]
    have e11' := e11 999998
    rw [r_T_ask, e_T_ask]
    by_cases y : x = 0
    · rw [if_pos y]
      exact e11'
    · rw [if_neg y, if_pos (by omega)]
      exact e11'
  · have e90 := E I1 t
    obtain ⟨I2, a1, a2⟩ := m_canBe (d := d + 53) (J := J1) m kk hL en ec e90
    rw [← eS] at a2
    have f90 : I2 90 = I 90 := (a1.1 90 (by omega) (by omega)).trans e90
    obtain ⟨I3, b1, b2, b3⟩ := s_worths (d := d + 52) (J := J1) (I := I2) (L := lvOf (I 90) LW) (n := n) (an := 0) m (by rw [f90]; exact kk) (by rw [f90]; exact hL) (by rw [f90]; exact en) (Or.inl rfl)
    rw [f90] at b3
    have g90 : I3 90 = I 90 := (b1.1 90 (by omega) (by omega) (by omega) (by omega)).trans f90
    refine ⟨I3, J1, b1.mq.tr a1.mq, ?_⟩
    rw [r_M_ask, e_M_ask, s_lies (d := d + 98), kI_o, if_pos (show (0 : Int) ≤ x ∧ x ≤ 1 by omega), if_neg (by omega), yck (bT_88 m), a2, kI_o, yck (bT_88 m), b2, kV_o]
    by_cases z : S = 0
    · rw [if_pos z, z]
      have z0 : lp (d + 99) 275 (999998 + 1) 30 [some (iR (some 88)), some (iI x), some (iI ((0 : Nat) : Int)), some (iI (-1)), some (iI 1000000), some (iI 0), none] [] (st h I3 J1) = some (oI (-1), st h I3 J1) := by
        rw [e_M_ask_30, yck (bT_88 m), m_many (d := d + 98) m (x := (n : Int)) (by rw [g90, en]), kI_o]
        by_cases y : (0 : Int) < (n : Int)
        · rw [if_pos y, if_pos (show ((0 : Nat) : Int) = 0 from rfl), if_pos rfl]
        · rw [if_neg y, if_pos rfl]
      exact z0
    · have h0 : 0 < n := by
        apply Classical.byContradiction
        intro q
        have : n = 0 := by omega
        rw [this] at eS
        exact z eS
      have i0 := l_askM (d := d + 97) (J := J1) m (by omega) h0 (by rw [g90, en]) b3 hSb z (w := x) n 0 (999998 - n) (-1) 1000000 (by omega) (fun _ => ⟨rfl, rfl⟩) (fun y => by omega)
      rw [show 999998 - n + n + 1 = 999999 by omega] at i0
      have i0' : lp (d + 99) 275 999999 30 [some (iR (some 88)), some (iI x), some (iI (S : Int)), some (iI (-1)), some (iI 1000000), some (iI 0), none] [] (st h I3 J1) = _ := i0
      rw [i0', if_neg z]
end P98h
