/-! count, envy, few (by program, wip/whole/gen98f.py) -/
def rwS (g : Nat → Nat) : Nat → Nat → Nat
  | 0, _ => 0
  | k + 1, y => g y + rwS g k (y + 1)
def ttS (g : Nat → Nat → Nat) (n : Nat) : Nat → Nat → Nat
  | 0, _ => 0
  | k + 1, x => rwS (g x) (n - (x + 1)) (x + 1) + ttS g n k (x + 1)
theorem rwS_le {g : Nat → Nat} (hg : ∀ y, g y ≤ 1) : ∀ (k y : Nat), rwS g k y ≤ k
  | 0, _ => Nat.le_refl _
  | k + 1, y => by
    have h1 := hg y
    have h2 := rwS_le hg k (y + 1)
    show g y + rwS g k (y + 1) ≤ k + 1
    omega
/-- whether there is a road, or a closed one -/
def rdG (K : Nat → Int) (cl : Int) (x y : Nat) : Nat := if 0 < K (120 + (7 * x + y)) ∧ (cl = 0 ∨ K (63 + (7 * x + y)) = 1) then 1 else 0
theorem rdG_le (K : Nat → Int) (cl : Int) (x y : Nat) : rdG K cl x y ≤ 1 := by
  unfold rdG
  split <;> omega
section P98f
variable {h : IH} {I I0 I1 I2 I' J : Nat → Nat → Int} {k L d n : Nat} {xs : Nat → Int32} {K K' : Nat → Int} {LW : Nat → Nat × (Nat → Cls)} {cl : Int}
theorem l_rdT17 (o : NowOk h I K LW) (en : K 183 = (n : Int)) (hc : cl = 0 ∨ cl = 1) {x : Nat} (hx : x < n) {a : Nat} (ha : a ≤ 100) : ∀ (m y c f : Nat), y + m = n → c + m ≤ 7 * a + 7 → lp (d + 1) 19 (f + m + 1) 17 [some (iR (some 4)), some (iI cl), some (iI (c : Int)), some (iI (x : Int)), some (iI (y : Int)), none] [] (st h I J) = lp (d + 1) 19 f 4 [some (iR (some 4)), some (iI cl), some (iI ((c + rwS (rdG K cl x) m y : Nat) : Int)), some (iI ((x + 1 : Nat) : Int)), none, none] [] (st h I J) := by
  have hn := o.2.2.1.1
  have e4 : I 4 0 = (n : Int) := o.2.1.1.trans en
  intro m
  induction m with
  | zero =>
    intro y c f hy hca
    rw [Nat.add_zero, e_La_countRoads_17, ygIv (aT_4 o.1) e4, if_neg (by omega), wr_id (by omega) (by omega)]
    rfl
  | succ m ih =>
    intro y c f hy hca
    have ee : milesK K (x : Int) (y : Int) = K (120 + (7 * x + y)) := by
      unfold milesK
      congr 1
    have ec : K (63 + (7 * (x : Int) + (y : Int)).toNat) = K (63 + (7 * x + y)) := by
      congr 1
    have hg := rdG_le K cl x y
    have hk := (o.2.2.1.2.2.1.2.1 (7 * x + y) (by omega))
    have i0 := ih (y + 1) c f (by omega) (by omega)
    have i1 := ih (y + 1) (c + 1) f (by omega) (by omega)
    have er : rwS (rdG K cl x) (m + 1) y = rdG K cl x y + rwS (rdG K cl x) m (y + 1) := rfl
    rw [show f + (m + 1) + 1 = (f + m + 1) + 1 by omega, e_La_countRoads_17, ygIv (aT_4 o.1) e4, if_pos (by omega), wr_id (x := (y : Int) + 1) (by omega) (by omega), show (y : Int) + 1 = ((y + 1 : Nat) : Int) by omega, er]
    rcases hc with rfl | rfl
    · rw [if_pos rfl, if_neg (by omega), yck (aT_4 o.1), t_miles o (by omega) (by omega), kI_o, ee]
      by_cases c1 : K (120 + (7 * x + y)) ≤ 0
      · rw [if_pos c1, i0, show rdG K 0 x y = 0 from if_neg (fun z => by omega), Nat.zero_add]
      · rw [if_neg c1, wr_id (by omega) (by omega), show (c : Int) + 1 = ((c + 1 : Nat) : Int) by omega, i1, show rdG K 0 x y = 1 from if_pos ⟨by omega, Or.inl rfl⟩, Nat.add_assoc]
    · rw [if_neg (by omega), yck (aT_4 o.1), t_closed o (by omega) (by omega), kI_o, ec]
      by_cases c0 : K (63 + (7 * x + y)) = 1
      · rw [if_pos c0, if_neg (by omega), yck (aT_4 o.1), t_miles o (by omega) (by omega), kI_o, ee]
        by_cases c1 : K (120 + (7 * x + y)) ≤ 0
        · rw [if_pos c1, i0, show rdG K 1 x y = 0 from if_neg (fun z => by omega), Nat.zero_add]
        · rw [if_neg c1, wr_id (by omega) (by omega), show (c : Int) + 1 = ((c + 1 : Nat) : Int) by omega, i1, show rdG K 1 x y = 1 from if_pos ⟨by omega, Or.inr c0⟩, Nat.add_assoc]
      · rw [if_neg c0, if_pos rfl, i0, show rdG K 1 x y = 0 from if_neg (fun z => by omega), Nat.zero_add]
theorem l_rdT4 (o : NowOk h I K LW) (en : K 183 = (n : Int)) (hc : cl = 0 ∨ cl = 1) : ∀ (m x c f : Nat), x + m = n → c ≤ 7 * x → lp (d + 1) 19 (f + 10 * m + 1) 4 [some (iR (some 4)), some (iI cl), some (iI (c : Int)), some (iI (x : Int)), none, none] [] (st h I J) = some (oI ((c + ttS (rdG K cl) n m x : Nat) : Int), st h I J) := by
  have hn := o.2.2.1.1
  have e4 : I 4 0 = (n : Int) := o.2.1.1.trans en
  intro m
  induction m with
  | zero =>
    intro x c f hx hca
    rw [show f + 10 * 0 + 1 = f + 1 by omega, e_La_countRoads_4, ygIv (aT_4 o.1) e4, if_neg (by omega)]
    rfl
  | succ m ih =>
    intro x c f hx hca
    have hl := rwS_le (rdG_le K cl x) (n - (x + 1)) (x + 1)
    have h17 := l_rdT17 (d := d) (J := J) o en hc (x := x) (by omega) (a := x) (by omega) (n - (x + 1)) (x + 1) c (f + 10 * m + 1 + (8 - (n - (x + 1)))) (by omega) (by omega)
    rw [show f + 10 * m + 1 + (8 - (n - (x + 1))) + (n - (x + 1)) + 1 = f + 10 * (m + 1) by omega] at h17
    have i0 := ih (x + 1) (c + rwS (rdG K cl x) (n - (x + 1)) (x + 1)) (f + (8 - (n - (x + 1)))) (by omega) (by omega)
    rw [show f + (8 - (n - (x + 1))) + 10 * m + 1 = f + 10 * m + 1 + (8 - (n - (x + 1))) by omega] at i0
    rw [e_La_countRoads_4, ygIv (aT_4 o.1) e4, if_pos (by omega), wr_id (by omega) (by omega), show (x : Int) + 1 = ((x + 1 : Nat) : Int) by omega, h17, i0, Nat.add_assoc]
    rfl
theorem l_rdM17 (m : ShM h 88) (k : KOk K) (en : K 183 = (n : Int)) (e90 : I 90 = K) (hc : cl = 0 ∨ cl = 1) {x : Nat} (hx : x < n) {a : Nat} (ha : a ≤ 100) : ∀ (q y c f : Nat), y + q = n → c + q ≤ 7 * a + 7 → lp (d + 3) 288 (f + q + 1) 17 [some (iR (some 88)), some (iI cl), some (iI (c : Int)), some (iI (x : Int)), some (iI (y : Int))] [] (st h I J) = lp (d + 3) 288 f 4 [some (iR (some 88)), some (iI cl), some (iI ((c + rwS (rdG K cl x) q y : Nat) : Int)), some (iI ((x + 1 : Nat) : Int)), none] [] (st h I J) := by
  have hn := k.1
  have e183 : I 90 183 = (n : Int) := by rw [e90, en]
  intro q
  induction q with
  | zero =>
    intro y c f hy hca
    rw [Nat.add_zero, e_M_roadMany_17, yck (bT_88 m), m_many m e183, kI_o, if_neg (by omega), wr_id (by omega) (by omega)]
    rfl
  | succ q ih =>
    intro y c f hy hca
    have ee : milesK K (x : Int) (y : Int) = K (120 + (7 * x + y)) := by
      unfold milesK
      congr 1
    have hg := rdG_le K cl x y
    have hk := (k.2.2.1.2.1 (7 * x + y) (by omega))
    have i0 := ih (y + 1) c f (by omega) (by omega)
    have i1 := ih (y + 1) (c + 1) f (by omega) (by omega)
    have er : rwS (rdG K cl x) (q + 1) y = rdG K cl x y + rwS (rdG K cl x) q (y + 1) := rfl
    rw [show f + (q + 1) + 1 = (f + q + 1) + 1 by omega, e_M_roadMany_17, yck (bT_88 m), m_many m e183, kI_o, if_pos (by omega), yck (bT_88 m), m_miles m e90 (by omega) (by omega), kI_o, ee, wr_id (x := (y : Int) + 1) (by omega) (by omega), show (y : Int) + 1 = ((y + 1 : Nat) : Int) by omega, er, wr_id (x := (c : Int) + 0) (by omega) (by omega), wr_id (x := (c : Int) + 1) (by omega) (by omega), Int.add_zero, show (c : Int) + 1 = ((c + 1 : Nat) : Int) by omega]
    by_cases c1 : K (120 + (7 * x + y)) ≤ 0
    · rw [if_pos c1, i0, show rdG K cl x y = 0 from if_neg (fun z => by omega), Nat.zero_add]
    rw [if_neg c1]
    rcases hc with rfl | rfl
    · rw [if_pos rfl, i1, show rdG K 0 x y = 1 from if_pos ⟨by omega, Or.inl rfl⟩, Nat.add_assoc]
    · have eo : I (88 + 2) (120 + (7 * (x : Int) + (y : Int))).toNat = K (120 + (7 * x + y)) ∧ I (88 + 2) (63 + (7 * (x : Int) + (y : Int))).toNat = K (63 + (7 * x + y)) := by
        rw [show (120 + (7 * (x : Int) + (y : Int))).toNat = 120 + (7 * x + y) by omega, show (63 + (7 * (x : Int) + (y : Int))).toNat = 63 + (7 * x + y) by omega]
        show I 90 _ = _ ∧ I 90 _ = _
        rw [e90]
        exact ⟨rfl, rfl⟩
      rw [if_neg (by omega), yck (bT_88 m), s_isOpen m (by omega) (by omega), kI_o, eo.1, eo.2]
      by_cases c0 : K (63 + (7 * x + y)) = 1
      · rw [if_neg (show ¬ (0 < K (120 + (7 * x + y)) ∧ K (63 + (7 * x + y)) = 0) by omega), if_pos rfl, i1, show rdG K 1 x y = 1 from if_pos ⟨by omega, Or.inr c0⟩, Nat.add_assoc]
      · rw [if_pos (show 0 < K (120 + (7 * x + y)) ∧ K (63 + (7 * x + y)) = 0 by omega), if_neg (by omega), i0, show rdG K 1 x y = 0 from if_neg (fun z => by omega), Nat.zero_add]
theorem l_rdM4 (m : ShM h 88) (k : KOk K) (en : K 183 = (n : Int)) (e90 : I 90 = K) (hc : cl = 0 ∨ cl = 1) : ∀ (q x c f : Nat), x + q = n → c ≤ 7 * x → lp (d + 3) 288 (f + 10 * q + 1) 4 [some (iR (some 88)), some (iI cl), some (iI (c : Int)), some (iI (x : Int)), none] [] (st h I J) = some (oI ((c + ttS (rdG K cl) n q x : Nat) : Int), st h I J) := by
  have hn := k.1
  have e183 : I 90 183 = (n : Int) := by rw [e90, en]
  intro q
  induction q with
  | zero =>
    intro x c f hx hca
    rw [show f + 10 * 0 + 1 = f + 1 by omega, e_M_roadMany_4, yck (bT_88 m), m_many m e183, kI_o, if_neg (by omega)]
    rfl
  | succ q ih =>
    intro x c f hx hca
    have hl := rwS_le (rdG_le K cl x) (n - (x + 1)) (x + 1)
    have h17 := l_rdM17 (d := d) (J := J) m k en e90 hc (x := x) (by omega) (a := x) (by omega) (n - (x + 1)) (x + 1) c (f + 10 * q + 1 + (8 - (n - (x + 1)))) (by omega) (by omega)
    rw [show f + 10 * q + 1 + (8 - (n - (x + 1))) + (n - (x + 1)) + 1 = f + 10 * (q + 1) by omega] at h17
    have i0 := ih (x + 1) (c + rwS (rdG K cl x) (n - (x + 1)) (x + 1)) (f + (8 - (n - (x + 1)))) (by omega) (by omega)
    rw [show f + (8 - (n - (x + 1))) + 10 * q + 1 = f + 10 * q + 1 + (8 - (n - (x + 1))) by omega] at i0
    rw [e_M_roadMany_4, yck (bT_88 m), m_many m e183, kI_o, if_pos (by omega), wr_id (by omega) (by omega), show (x : Int) + 1 = ((x + 1 : Nat) : Int) by omega, h17, i0, Nat.add_assoc]
    rfl
theorem t_roads (o : NowOk h I K LW) (en : K 183 = (n : Int)) (hc : cl = 0 ∨ cl = 1) : rn (d + 2) 19 [iR (some 4), iI cl] (st h I J) = some (oI (ttS (rdG K cl) n n 0 : Nat), st h I J) := by
  have hn := o.2.2.1.1
  have i0 := l_rdT4 (d := d) (J := J) o en hc n 0 0 (999998 - 10 * n) (by omega) (by omega)
  rw [show 999998 - 10 * n + 10 * n + 1 = 999999 by omega, Nat.zero_add] at i0
  rw [r_La_countRoads, e_La_countRoads]
  exact i0
theorem m_roads (m : ShM h 88) (k : KOk K) (en : K 183 = (n : Int)) (e90 : I 90 = K) (hc : cl = 0 ∨ cl = 1) : rn (d + 4) 288 [iR (some 88), iI cl] (st h I J) = some (oI (ttS (rdG K cl) n n 0 : Nat), st h I J) := by
  have hn := k.1
  have i0 := l_rdM4 (d := d) (J := J) m k en e90 hc n 0 0 (999998 - 10 * n) (by omega) (by omega)
  rw [show 999998 - 10 * n + 10 * n + 1 = 999999 by omega, Nat.zero_add] at i0
  rw [r_M_roadMany, e_M_roadMany]
  exact i0
theorem cnt_at (r : RL h I 4 K LW) (k : KOk K) : ∀ c : Nat, (c : Int) ≤ K 183 → cntSelf (I 6) c = cntSelf K c
  | 0, _ => rfl
  | c + 1, hc => by
    have k1 := k.1
    rw [cntSelf_s, cntSelf_s, cnt_at r k c (by omega)]
    have e := (r.2.1 c (by omega)).2
    rw [if_pos (show (c : Int) < K 183 by omega)] at e
    have e' : I 6 c = atK K c := e
    rw [e']
    have h1 := atK_ok k (s := (c : Int)) (by omega)
    by_cases q : K c = (c : Int)
    · have := atK_of k (u := c) (by omega)
      rw [q] at this
      rw [if_pos this, if_pos q]
    · rw [if_neg q, if_neg]
      intro z
      rw [z, Int.toNat_natCast] at h1
      exact q h1.2
theorem C_count (v : Inv L xs k h I) (hk : k < 1000) (x : Int) : Cal L xs k h I J 138 289 [iI x] := by
  obtain ⟨LW, o⟩ := v.now
  have s := v.t
  have m := v.m
  have kk := o.2.2.1
  have hn := kk.1
  obtain ⟨n, en⟩ : ∃ n : Nat, I 90 183 = (n : Int) := ⟨(I 90 183).toNat, by omega⟩
  have E : ∀ I1, TnQ I1 I → I1 90 = I 90 ∧ I1 88 = I 88 ∧ I1 89 = I 89 := fun I1 t => ⟨t 90 (by omega) (by omega) (by omega) (by omega), t 88 (by omega) (by omega) (by omega) (by omega), t 89 (by omega) (by omega) (by omega) (by omega)⟩
  obtain ⟨kp, nx, b1, b2, b3, b4, b5, b6⟩ := v.p
  obtain ⟨-, ⟨p0, p1, p2, p3, p4⟩, -⟩ := v.r
  have r6 := o.2.1.2.2.2.1
  -- what it answers
  obtain ⟨val, hv⟩ : ∃ val : Int, val = (if x = 0 then (n : Int) else if x = 1 then (cntSelf (I 90) n : Nat) else if x = 2 then (ttS (rdG (I 90) 0) n n 0 : Nat) else if x = 3 then (ttS (rdG (I 90) 1) n n 0 : Nat) else if x = 4 then I 90 184 else if x = 5 then I 90 185 else if x = 6 then (kp : Int) else if x = 7 then I 88 13 else if x = 8 then I 89 1 else if x = 9 then I 89 2 else if x = 10 then I 89 3 else if x = 11 then I 89 5 else if x = 12 then I 89 6 else if x = 13 then I 90 186 else if x = 14 then I 90 112 else if x = 15 then I 90 181 else if x = 16 then I 90 182 else -1) := ⟨_, rfl⟩
  refine Cal.q v hk val (fun d => ⟨I, J, TnQ.rf I, ?_⟩) fun d I1 J1 t => ⟨I1, J1, MnQ.rf I1, ?_⟩
  · have e4 : I 4 0 = (n : Int) := o.2.1.1.trans en
    have cc : cntSelf (I (4 + 2)) n = cntSelf (I 90) n := cnt_at o.2.1 kk n (by omega)
    have hcount := s_countHome (d := d + 98) (J := J) (ShT_4 s) e4 (by omega)
    rw [cc] at hcount
    have hr0 := t_roads (d := d + 97) (J := J) o en (cl := 0) (Or.inl rfl)
    have hr1 := t_roads (d := d + 97) (J := J) o en (cl := 1) (Or.inr rfl)
    have e47 : ∀ f, (x < 8 ∨ x = 13 ∨ 16 < x) → lp (d + 99) 138 (f + 1) 47 [some (iR (some 3)), some (iI x)] [] (st h I J) = some (oI val, st h I J) := fun f hx => by
      rw [e_T_count_47, hv]
      by_cases c0 : x = 0
      · rw [if_pos c0, if_pos c0, ygR (aT_3 s) (aR_3_0 s), xB_s, ygIv (aT_4 s) e4]
      rw [if_neg c0, if_neg c0]
      by_cases c1 : x = 1
      · rw [if_pos c1, if_pos c1, ygR (aT_3 s) (aR_3_0 s), xB_s, yck (aT_4 s), hcount, kI_o]
      rw [if_neg c1, if_neg c1]
      by_cases c2 : x = 2
      · rw [if_pos c2, if_pos c2, ygR (aT_3 s) (aR_3_0 s), xB_s, yck (aT_4 s), hr0, kI_o]
      rw [if_neg c2, if_neg c2]
      by_cases c3 : x = 3
      · rw [if_pos c3, if_pos c3, ygR (aT_3 s) (aR_3_0 s), xB_s, yck (aT_4 s), hr1, kI_o]
      rw [if_neg c3, if_neg c3]
      by_cases c4 : x = 4
      · rw [if_pos c4, if_pos c4, ygR (aT_3 s) (aR_3_0 s), xB_s, ygIv (aT_4 s) o.2.1.2.2.2.2.1.1]
      rw [if_neg c4, if_neg c4]
      by_cases c5 : x = 5
      · rw [if_pos c5, if_pos c5, ygR (aT_3 s) (aR_3_0 s), xB_s, ygIv (aT_4 s) o.2.1.2.2.2.2.2.1.1]
      rw [if_neg c5, if_neg c5]
      by_cases c6 : x = 6
      · rw [if_pos c6, if_pos c6, ygR (aT_3 s) (aR_3_9 s), xB_s, ygIv (aT_72 s) b3]
      rw [if_neg c6, if_neg c6]
      by_cases c7 : x = 7
      · rw [if_pos c7, if_pos c7, ygR (aT_3 s) (aR_3_4 s), xB_s, ygIv (aT_41 s) v.tp.1.1]
      rw [if_neg c7, if_neg c7, if_neg (show ¬ x = 8 by omega), if_neg (show ¬ x = 9 by omega), if_neg (show ¬ x = 10 by omega), if_neg (show ¬ x = 11 by omega), if_neg (show ¬ x = 12 by omega), if_neg (show ¬ x = 8 by omega), if_neg (show ¬ x = 9 by omega), if_neg (show ¬ x = 10 by omega), if_neg (show ¬ x = 11 by omega), if_neg (show ¬ x = 12 by omega)]
      by_cases c13 : x = 13
      · rw [if_pos c13, if_pos c13, ygR (aT_3 s) (aR_3_0 s), xB_s, ygIv (aT_4 s) o.2.1.2.2.2.2.2.1.2.1]
      · rw [if_neg c13, if_neg c13, if_neg (show ¬ x = 14 by omega), if_neg (show ¬ x = 15 by omega), if_neg (show ¬ x = 16 by omega)]
    have e47' := e47 999998
    rw [r_T_count, e_T_count]
    by_cases c8 : x < 8
    · rw [if_pos c8, if_pos (show x < 14 by omega)]
      exact e47' (Or.inl c8)
    rw [if_neg c8]
    by_cases c12 : x ≤ 12
    · rw [if_pos c12, ygR (aT_3 s) (aR_3_14 s), xB_s, hv, if_neg (show ¬ x = 0 by omega), if_neg (show ¬ x = 1 by omega), if_neg (show ¬ x = 2 by omega), if_neg (show ¬ x = 3 by omega), if_neg (show ¬ x = 4 by omega), if_neg (show ¬ x = 5 by omega), if_neg (show ¬ x = 6 by omega), if_neg (show ¬ x = 7 by omega), wr_id (by omega) (by omega)]
      by_cases q8 : x = 8
      · rw [if_pos q8, yaIv (i := 0) (aT_87 s) (aL_87 s) (by omega) (by omega) p0]
      rw [if_neg q8]
      by_cases q9 : x = 9
      · rw [if_pos q9, yaIv (i := 1) (aT_87 s) (aL_87 s) (by omega) (by omega) p1]
      rw [if_neg q9]
      by_cases q10 : x = 10
      · rw [if_pos q10, yaIv (i := 2) (aT_87 s) (aL_87 s) (by omega) (by omega) p2]
      rw [if_neg q10]
      by_cases q11 : x = 11
      · rw [if_pos q11, yaIv (i := 3) (aT_87 s) (aL_87 s) (by omega) (by omega) p3]
      · rw [if_neg q11, if_pos (show x = 12 by omega), yaIv (i := 4) (aT_87 s) (aL_87 s) (by omega) (by omega) p4]
    rw [if_neg c12]
    by_cases c14 : x < 14
    · rw [if_pos c14]
      exact e47' (by omega)
    rw [if_neg c14]
    by_cases c16 : x ≤ 16
    · rw [if_pos c16, ygR (aT_3 s) (aR_3_0 s), xB_s, ygR (aT_4 s) (aR_4_8 s), xB_s, hv, if_neg (show ¬ x = 0 by omega), if_neg (show ¬ x = 1 by omega), if_neg (show ¬ x = 2 by omega), if_neg (show ¬ x = 3 by omega), if_neg (show ¬ x = 4 by omega), if_neg (show ¬ x = 5 by omega), if_neg (show ¬ x = 6 by omega), if_neg (show ¬ x = 7 by omega), if_neg (show ¬ x = 8 by omega), if_neg (show ¬ x = 9 by omega), if_neg (show ¬ x = 10 by omega), if_neg (show ¬ x = 11 by omega), if_neg (show ¬ x = 12 by omega), if_neg (show ¬ x = 13 by omega), wr_id (by omega) (by omega)]
      by_cases q14 : x = 14
      · rw [if_pos q14, yaIv (i := 0) (aT_12 s) (aL_12 s) (by omega) (by omega) r6.1]
      rw [if_neg q14]
      by_cases q15 : x = 15
      · rw [if_pos q15, yaIv (i := 1) (aT_12 s) (aL_12 s) (by omega) (by omega) r6.2.1]
      · rw [if_neg q15, if_pos (show x = 16 by omega), yaIv (i := 2) (aT_12 s) (aL_12 s) (by omega) (by omega) r6.2.2]
    · rw [if_neg c16]
      exact e47' (by omega)
  · obtain ⟨e90, e88, e89⟩ := E I1 t
    have hh := s_homeMany (d := d + 97) (J := J1) (I := I1) m (by rw [e90]; exact hn)
    rw [e90, en, Int.toNat_natCast] at hh
    have hr0 := m_roads (d := d + 95) (J := J1) m kk en e90 (cl := 0) (Or.inl rfl)
    have hr1 := m_roads (d := d + 95) (J := J1) m kk en e90 (cl := 1) (Or.inr rfl)
    rw [r_M_count, e_M_count, hv]
    by_cases c0 : x = 0
    · rw [if_pos c0, if_pos c0, yck (bT_88 m), m_many (d := d + 98) m (x := (n : Int)) (by rw [e90, en]), kI_o]
    rw [if_neg c0, if_neg c0]
    by_cases c1 : x = 1
    · rw [if_pos c1, if_pos c1, yck (bT_88 m), hh, kI_o]
    rw [if_neg c1, if_neg c1]
    by_cases c2 : x = 2
    · rw [if_pos c2, if_pos c2, yck (bT_88 m), hr0, kI_o]
    rw [if_neg c2, if_neg c2]
    by_cases c3 : x = 3
    · rw [if_pos c3, if_pos c3, yck (bT_88 m), hr1, kI_o]
    rw [if_neg c3, if_neg c3]
    by_cases c4 : x = 4
    · rw [if_pos c4, if_pos c4, ygR (bT_88 m) (bR_2 m), xB_s, yaIv (i := 184) (j := 184) (x := I 90 184) (bT_90 m) (bL_90 m) rfl (by omega) (by rw [e90])]
    rw [if_neg c4, if_neg c4]
    by_cases c5 : x = 5
    · rw [if_pos c5, if_pos c5, ygR (bT_88 m) (bR_2 m), xB_s, yaIv (i := 185) (j := 185) (x := I 90 185) (bT_90 m) (bL_90 m) rfl (by omega) (by rw [e90])]
    rw [if_neg c5, if_neg c5]
    by_cases c6 : x = 6
    · rw [if_pos c6, if_pos c6, ygIv (bT_88 m) (by rw [e88, b5])]
    rw [if_neg c6, if_neg c6]
    by_cases c7 : x = 7
    · rw [if_pos c7, if_pos c7, ygIv (bT_88 m) (by rw [e88])]
    rw [if_neg c7, if_neg c7]
    by_cases c8 : x = 8
    · rw [if_pos c8, if_pos c8, ygR (bT_88 m) (bR_1 m), xB_s, yaIv (i := 1) (x := I 89 1) (bT_89 m) (bL_89 m) (by rw [wr_id (by omega) (by omega)]; omega) (by omega) (by rw [e89])]
    rw [if_neg c8, if_neg c8]
    by_cases c9 : x = 9
    · rw [if_pos c9, if_pos c9, ygR (bT_88 m) (bR_1 m), xB_s, yaIv (i := 2) (x := I 89 2) (bT_89 m) (bL_89 m) (by rw [wr_id (by omega) (by omega)]; omega) (by omega) (by rw [e89])]
    rw [if_neg c9, if_neg c9]
    by_cases c10 : x = 10
    · rw [if_pos c10, if_pos c10, ygR (bT_88 m) (bR_1 m), xB_s, yaIv (i := 3) (x := I 89 3) (bT_89 m) (bL_89 m) (by rw [wr_id (by omega) (by omega)]; omega) (by omega) (by rw [e89])]
    rw [if_neg c10, if_neg c10]
    by_cases c11 : x = 11
    · rw [if_pos c11, if_pos c11, ygR (bT_88 m) (bR_1 m), xB_s, yaIv (i := 5) (j := 5) (x := I 89 5) (bT_89 m) (bL_89 m) rfl (by omega) (by rw [e89])]
    rw [if_neg c11, if_neg c11]
    by_cases c12 : x = 12
    · rw [if_pos c12, if_pos c12, ygR (bT_88 m) (bR_1 m), xB_s, yaIv (i := 6) (j := 6) (x := I 89 6) (bT_89 m) (bL_89 m) rfl (by omega) (by rw [e89])]
    rw [if_neg c12, if_neg c12]
    by_cases c13 : x = 13
    · rw [if_pos c13, if_pos c13, ygR (bT_88 m) (bR_2 m), xB_s, yaIv (i := 186) (j := 186) (x := I 90 186) (bT_90 m) (bL_90 m) rfl (by omega) (by rw [e90])]
    rw [if_neg c13, if_neg c13]
    by_cases c14 : x = 14
    · rw [if_pos c14, if_pos c14, ygR (bT_88 m) (bR_2 m), s_termAt (d := d + 98), kI_o, xB_s, c14, show tmi (wr ((14 : Int) - 14)) = 112 by rw [wr_id (by omega) (by omega)]; rfl, yaIv (i := 112) (x := I 90 112) (bT_90 m) (bL_90 m) rfl (by omega) (by rw [e90])]
    rw [if_neg c14, if_neg c14]
    by_cases c15 : x = 15
    · rw [if_pos c15, if_pos c15, ygR (bT_88 m) (bR_2 m), s_termAt (d := d + 98), kI_o, xB_s, c15, show tmi (wr ((15 : Int) - 14)) = 181 by rw [wr_id (by omega) (by omega)]; rfl, yaIv (i := 181) (x := I 90 181) (bT_90 m) (bL_90 m) rfl (by omega) (by rw [e90])]
    rw [if_neg c15, if_neg c15]
    by_cases c16 : x = 16
    · rw [if_pos c16, if_pos c16, ygR (bT_88 m) (bR_2 m), s_termAt (d := d + 98), kI_o, xB_s, c16, show tmi (wr ((16 : Int) - 14)) = 182 by rw [wr_id (by omega) (by omega)]; rfl, yaIv (i := 182) (x := I 90 182) (bT_90 m) (bL_90 m) rfl (by omega) (by rw [e90])]
    · rw [if_neg c16, if_neg c16]
      exact e_M_count_181 _ 999998 _
end P98f
