/-! bargains (by program, wip/whole/gen98i.py) -/
noncomputable def gaB (K : Nat → Int) (L : LwV) (a b : Nat) : Bool := decide (likeK K L (a : Int) (K a) < likeK K L (a : Int) (K b)) && decide (haveK K L (a : Int) (K b) = 1)
noncomputable def baB (K : Nat → Int) (L : LwV) (a b : Nat) : Bool := gaB K L a b && gaB K L b a
/-- through the row a: found, or how many till then -/
noncomputable def baR (K : Nat → Int) (L : LwV) (i : Int) (a : Nat) : Nat → Nat → Nat → Sum Nat Nat
  | 0, _, c => .inr c
  | q + 1, b, c => if baB K L a b = true then (if (c : Int) = i then .inl (7 * a + b) else baR K L i a q (b + 1) (c + 1)) else baR K L i a q (b + 1) c
noncomputable def baA (K : Nat → Int) (L : LwV) (i : Int) (n : Nat) : Nat → Nat → Nat → Int
  | 0, _, c => if i = -1 then (c : Int) else -1
  | q + 1, a, c => match baR K L i a (n - (a + 1)) (a + 1) c with
    | .inl v => (v : Int)
    | .inr c' => baA K L i n q (a + 1) c'
section P98i
variable {h : IH} {I I0 I1 I2 I' J : Nat → Nat → Int} {k L d n : Nat} {xs : Nat → Int32} {K K' : Nat → Int} {LW : Nat → Nat × (Nat → Cls)} {LV : LwV}
theorem baR_le {i : Int} {a : Nat} : ∀ (q b c c' : Nat), baR K LV i a q b c = .inr c' → c' ≤ c + q
  | 0, b, c, c', e => by
    have e' : (Sum.inr c : Sum Nat Nat) = .inr c' := e
    have := Sum.inr.inj e'
    omega
  | q + 1, b, c, c', e => by
    unfold baR at e
    by_cases z : baB K LV a b = true
    · rw [if_pos z] at e
      by_cases y : (c : Int) = i
      · rw [if_pos y] at e
        cases e
      · rw [if_neg y] at e
        have := baR_le q (b + 1) (c + 1) c' e
        omega
    · rw [if_neg z] at e
      have := baR_le q (b + 1) c c' e
      omega
theorem t_gains (s : ShT h) {I : Nat → Nat → Int} (o : NowOk h I K LW) (en : K 183 = (n : Int)) (hS : LkOk I n K LV) (hM : MyOk I n K LV n) {a b : Nat} (ha : a < n) (hb : b < n) : rn (d + 1) 42 [iR (some 76), iR (some 4), iI (a : Int), iI (b : Int)] (st h I J) = some (oI (if gaB K LV a b = true then 1 else 0), st h I J) := by
  have hn := o.2.2.1.1
  have ka := o.2.2.1.2.1.1 a (by omega)
  have kb := o.2.2.1.2.1.1 b (by omega)
  have v1 := hS a (K a).toNat ha (by omega)
  have v2 := hS a (K b).toNat ha (by omega)
  rw [show (((K a).toNat : Nat) : Int) = K a by omega] at v1
  rw [show (((K b).toNat : Nat) : Int) = K b by omega] at v2
  have hm := hM a ha
  have hlt := mayN_lt K LV a (k := n) (by omega)
  have hb2 := mayN_bit K LV (t := a) (s := (K b).toNat) (n := n) (by omega)
  rw [show (((K b).toNat : Nat) : Int) = K b by omega] at hb2
  have hsh := shrI hlt (show (K b).toNat < 7 by omega)
  rw [show (((K b).toNat : Nat) : Int) = K b by omega] at hsh
  rw [r_Pa_gains, e_Pa_gains, ygR (aT_76 s) (aR_76_0 s), xB_s, ygR (aT_4 s) (aR_4_1 s), xB_s, yaIv (i := a) (aT_5 s) (aL_5 s) rfl (by omega) (o.2.1.has o.2.2.1 (u := a) (by omega)), xB_s, wr_id (x := (a : Int) * 7) (by omega) (by omega), wr_id (x := (a : Int) * 7 + K a) (by omega) (by omega), yaIv (i := 7 * a + (K a).toNat) (aT_77 s) (aL_77 s) (by omega) (by omega) v1, ygR (aT_76 s) (aR_76_0 s), xB_s, ygR (aT_4 s) (aR_4_1 s), xB_s, yaIv (i := b) (aT_5 s) (aL_5 s) rfl (by omega) (o.2.1.has o.2.2.1 (u := b) (by omega)), xB_s, wr_id (x := (a : Int) * 7 + K b) (by omega) (by omega), yaIv (i := 7 * a + (K b).toNat) (aT_77 s) (aL_77 s) (by omega) (by omega) v2]
  by_cases z : likeK K LV (a : Int) (K a) < likeK K LV (a : Int) (K b)
  · rw [if_neg (by omega), ygR (aT_76 s) (aR_76_1 s), xB_s, yaIv (i := a) (aT_78 s) (aL_78 s) rfl (by omega) hm, xB_s, ygR (aT_4 s) (aR_4_1 s), xB_s, yaIv (i := b) (aT_5 s) (aL_5 s) rfl (by omega) (o.2.1.has o.2.2.1 (u := b) (by omega)), hsh, hb2]
    by_cases y : haveK K LV (a : Int) (K b) = 1
    · rw [if_pos (decide_eq_true y), if_pos rfl, xZ_1, if_pos (show gaB K LV a b = true by unfold gaB; rw [decide_eq_true z, decide_eq_true y]; rfl)]
    · rw [if_neg (by rw [decide_eq_false y]; decide), xZ_0, if_neg (show ¬ gaB K LV a b = true by unfold gaB; rw [decide_eq_false y, Bool.and_false]; decide)]
  · rw [if_pos (by omega), xZ_0, if_neg (show ¬ gaB K LV a b = true by unfold gaB; rw [decide_eq_false z, Bool.false_and]; decide)]
theorem l_baT20 (s : ShT h) {I : Nat → Nat → Int} (o : NowOk h I K LW) (en : K 183 = (n : Int)) (hS : LkOk I n K LV) (hM : MyOk I n K LV n) {i : Int} {a : Nat} (ha : a < n) : ∀ (q b c f : Nat), b + q = n → c + q ≤ 100 → lp (d + 1) 41 (f + q + 1) 20 [some (iR (some 76)), some (iR (some 4)), some (iI i), some (iI (c : Int)), some (iI (a : Int)), some (iI (b : Int))] [] (st h I J) = (match baR K LV i a q b c with
    | .inl v => some (oI (v : Int), st h I J)
    | .inr c' => lp (d + 1) 41 f 5 [some (iR (some 76)), some (iR (some 4)), some (iI i), some (iI (c' : Int)), some (iI ((a + 1 : Nat) : Int)), none] [] (st h I J)) := by
  have hn := o.2.2.1.1
  have e4 : I 4 0 = (n : Int) := o.2.1.1.trans en
  intro q
  induction q with
  | zero =>
    intro b c f hb hc
    rw [Nat.add_zero, e_Pa_bargain_20, xB_s, ygIv (aT_4 s) e4, if_neg (by omega), wr_id (x := (a : Int) + 1) (by omega) (by omega)]
    rfl
  | succ q ih =>
    intro b c f hb hc
    have i0 := ih (b + 1) c f (by omega) (by omega)
    have i1 := ih (b + 1) (c + 1) f (by omega) (by omega)
    have g1 := t_gains (d := d) (J := J) s o en hS hM (a := a) (b := b) ha (by omega)
    have g2 := t_gains (d := d) (J := J) s o en hS hM (a := b) (b := a) (by omega) ha
    have er : baR K LV i a (q + 1) b c = if baB K LV a b = true then (if (c : Int) = i then .inl (7 * a + b) else baR K LV i a q (b + 1) (c + 1)) else baR K LV i a q (b + 1) c := rfl
    rw [show f + (q + 1) + 1 = (f + q + 1) + 1 by omega, e_Pa_bargain_20, xB_s, ygIv (aT_4 s) e4, if_pos (by omega), yck (aT_76 s), g1, kI_o, wr_id (x := (b : Int) + 1) (by omega) (by omega), show (b : Int) + 1 = ((b + 1 : Nat) : Int) by omega, er]
    by_cases z1 : gaB K LV a b = true
    · rw [if_pos z1, if_neg (by omega), yck (aT_76 s), g2, kI_o]
      by_cases z2 : gaB K LV b a = true
      · have zb : baB K LV a b = true := by unfold baB; rw [z1, z2]; rfl
        rw [if_pos z2, if_neg (by omega), if_pos zb]
        by_cases y : (c : Int) = i
        · rw [if_pos y, if_pos y, wr_id (x := (a : Int) * 7) (by omega) (by omega), wr_id (x := (a : Int) * 7 + (b : Int)) (by omega) (by omega)]
          show some (oI ((a : Int) * 7 + (b : Int)), st h I J) = some (oI ((7 * a + b : Nat) : Int), st h I J)
          rw [show (a : Int) * 7 + (b : Int) = ((7 * a + b : Nat) : Int) by omega]
        · rw [if_neg y, if_neg y, wr_id (x := (c : Int) + 1) (by omega) (by omega), show (c : Int) + 1 = ((c + 1 : Nat) : Int) by omega, i1]
      · have zb : ¬ baB K LV a b = true := fun w => z2 (Bool.and_eq_true_iff.mp w).2
        rw [if_neg z2, if_pos rfl, if_neg zb, i0]
    · have zb : ¬ baB K LV a b = true := fun w => z1 (Bool.and_eq_true_iff.mp w).1
      rw [if_neg z1, if_pos rfl, if_neg zb, i0]
theorem l_baT5 (s : ShT h) {I : Nat → Nat → Int} (o : NowOk h I K LW) (en : K 183 = (n : Int)) (hS : LkOk I n K LV) (hM : MyOk I n K LV n) {i : Int} : ∀ (q a c f : Nat), a + q = n → c ≤ 7 * a → lp (d + 1) 41 (f + 10 * q + 1) 5 [some (iR (some 76)), some (iR (some 4)), some (iI i), some (iI (c : Int)), some (iI (a : Int)), none] [] (st h I J) = some (oI (baA K LV i n q a c), st h I J) := by
  have hn := o.2.2.1.1
  have e4 : I 4 0 = (n : Int) := o.2.1.1.trans en
  intro q
  induction q with
  | zero =>
    intro a c f ha hc
    rw [show f + 10 * 0 + 1 = f + 1 by omega, e_Pa_bargain_5, xB_s, ygIv (aT_4 s) e4, if_neg (by omega)]
    show _ = some (oI (if i = -1 then (c : Int) else -1), st h I J)
    by_cases z : i = -1
    · rw [if_pos z, if_pos z]
    · rw [if_neg z, if_neg z]
  | succ q ih =>
    intro a c f ha hc
    have h1 := l_baT20 (d := d) (J := J) s o en hS hM (i := i) (a := a) (by omega) (n - (a + 1)) (a + 1) c (f + 10 * q + 1 + (8 - (n - (a + 1)))) (by omega) (by omega)
    rw [show f + 10 * q + 1 + (8 - (n - (a + 1))) + (n - (a + 1)) + 1 = f + 10 * (q + 1) by omega] at h1
    rw [e_Pa_bargain_5, xB_s, ygIv (aT_4 s) e4, if_pos (by omega), wr_id (x := (a : Int) + 1) (by omega) (by omega), show (a : Int) + 1 = ((a + 1 : Nat) : Int) by omega, h1]
    show _ = some (oI (match baR K LV i a (n - (a + 1)) (a + 1) c with
      | .inl v => (v : Int)
      | .inr c' => baA K LV i n q (a + 1) c'), st h I J)
    cases er : baR K LV i a (n - (a + 1)) (a + 1) c with
    | inl v => rfl
    | inr c' =>
      have := baR_le _ _ _ _ er
      have i0 := ih (a + 1) c' (f + (8 - (n - (a + 1)))) (by omega) (by omega)
      rw [show f + (8 - (n - (a + 1))) + 10 * q + 1 = f + 10 * q + 1 + (8 - (n - (a + 1))) by omega] at i0
      exact i0
theorem t_bargain (s : ShT h) {I : Nat → Nat → Int} (o : NowOk h I K LW) (en : K 183 = (n : Int)) (hS : LkOk I n K LV) (hM : MyOk I n K LV n) (i : Int) : rn (d + 2) 41 [iR (some 76), iR (some 4), iI i] (st h I J) = some (oI (baA K LV i n n 0 0), st h I J) := by
  have hn := o.2.2.1.1
  have i0 := l_baT5 (d := d) (J := J) s o en hS hM (i := i) n 0 0 (999998 - 10 * n) (by omega) (by omega)
  rw [show 999998 - 10 * n + 10 * n + 1 = 999999 by omega] at i0
  have i0' : lp (d + 1) 41 999999 5 [some (iR (some 76)), some (iR (some 4)), some (iI i), some (iI 0), some (iI 0), none] [] (st h I J) = _ := i0
  rw [r_Pa_bargain, e_Pa_bargain, i0']
theorem ga_sw (k : KOk K) {a b : Nat} (ha : (a : Int) < K 183) (hb : (b : Int) < K 183) (hab : a ≠ b) : haveK K LV (a : Int) (K b) = 1 ↔ sendK K LV (K b) (b : Int) (a : Int) = 1 := by
  have e := atK_of k hb
  unfold haveK
  rw [e, if_neg (by omega)]
theorem m_bargain (m : ShM h 88) {I : Nat → Nat → Int} (k : KOk K) (hL : LwR K LV) (en : K 183 = (n : Int)) (e90 : I 90 = K) {a b : Nat} (ha : a < n) (hb : b < n) (hab : a ≠ b) : ∃ I1, AsFr I1 I ∧ rn (d + 47) 267 [iR (some 88), iI (a : Int), iI (b : Int)] (st h I J) = some (oI (if baB K LV a b = true then 1 else 0), st h I1 J) := by
  have hn := k.1
  have ka := k.2.1.1 a (by omega)
  have kb := k.2.1.1 b (by omega)
  obtain ⟨I1, v, a1, a2, a3, a4⟩ := m_canSw (d := d) (J := J) (I := I) (L := LV) m (by rw [e90]; exact k) (by rw [e90]; exact hL) (a := (a : Int)) (b := (b : Int)) (by rw [e90]; omega) (by rw [e90]; omega)
  rw [e90] at a4
  unfold canSw at a4
  rw [Int.toNat_natCast, Int.toNat_natCast, ← ga_sw (LV := LV) k (a := b) (b := a) (by omega) (by omega) (fun z => hab z.symm), ← ga_sw (LV := LV) k (a := a) (b := b) (by omega) (by omega) hab] at a4
  have g90 : I1 90 = K := by rw [a1.1 90 (by omega) (by omega)]; exact e90
  have like : ∀ (I : Nat → Nat → Int) (t u : Int), I 90 = K → 0 ≤ t ∧ t < K 183 → 0 ≤ u ∧ u < K 183 → ∃ I', AsFr I' I ∧ I' 90 = K ∧ rn (d + 46) 221 [iR (some 88), iI t, iI u] (st h I J) = some (oI (likeK K LV t u), st h I' J) := fun I t u e ht hu => by
    obtain ⟨I', q1, q2⟩ := m_like (d := d + 2) (J := J) (I := I) (L := LV) m (by rw [e]; exact k) (by rw [e]; exact hL) (t := t) (u := u) (by rw [e]; exact ht) (by rw [e]; exact hu)
    rw [e] at q2
    exact ⟨I', q1, by rw [q1.1 90 (by omega) (by omega)]; exact e, q2⟩
  rw [r_M_isBargain, e_M_isBargain, yck (bT_88 m), a2, kI_o]
  by_cases z : v = 1
  case neg =>
    refine ⟨I1, a1, ?_⟩
    have zb : ¬ baB K LV a b = true := fun w => z (a4.2 (by
      have w1 := Bool.and_eq_true_iff.mp w
      exact ⟨of_decide_eq_true (Bool.and_eq_true_iff.mp w1.2).2, of_decide_eq_true (Bool.and_eq_true_iff.mp w1.1).2⟩))
    rw [if_pos (by omega), xZ_0, if_neg zb]
  obtain ⟨h1, h2⟩ := a4.1 z
  obtain ⟨I2, b1, b2, b3⟩ := like I1 (a : Int) (K b) g90 (by omega) kb
  obtain ⟨I3, c1, c2, c3⟩ := like I2 (a : Int) (K a) b2 (by omega) ka
  rw [if_neg (by omega), ygR (bT_88 m) (bR_2 m), xB_s, yaIv (i := b) (x := K b) (bT_90 m) (bL_90 m) (by rw [wr_id (by omega) (by omega)]; omega) (by omega) (by rw [g90]), yck (bT_88 m), b3, kI_o, ygR (bT_88 m) (bR_2 m), xB_s, yaIv (i := a) (x := K a) (bT_90 m) (bL_90 m) (by rw [wr_id (by omega) (by omega)]; omega) (by omega) (by rw [b2]), yck (bT_88 m), c3, kI_o]
  by_cases y : likeK K LV (a : Int) (K a) < likeK K LV (a : Int) (K b)
  case neg =>
    refine ⟨I3, c1.tr (b1.tr a1), ?_⟩
    have zb : ¬ baB K LV a b = true := fun w => y (of_decide_eq_true (Bool.and_eq_true_iff.mp (Bool.and_eq_true_iff.mp w).1).1)
    rw [if_pos (by omega), xZ_0, if_neg zb]
  obtain ⟨I4, d1, d2, d3⟩ := like I3 (b : Int) (K a) c2 (by omega) ka
  obtain ⟨I5, e1, e2, e3⟩ := like I4 (b : Int) (K b) d2 (by omega) kb
  refine ⟨I5, e1.tr (d1.tr (c1.tr (b1.tr a1))), ?_⟩
  rw [if_neg (by omega), ygR (bT_88 m) (bR_2 m), xB_s, yaIv (i := a) (x := K a) (bT_90 m) (bL_90 m) (by rw [wr_id (by omega) (by omega)]; omega) (by omega) (by rw [c2]), yck (bT_88 m), d3, kI_o, ygR (bT_88 m) (bR_2 m), xB_s, yaIv (i := b) (x := K b) (bT_90 m) (bL_90 m) (by rw [wr_id (by omega) (by omega)]; omega) (by omega) (by rw [d2]), yck (bT_88 m), e3, kI_o]
  by_cases w : likeK K LV (b : Int) (K b) < likeK K LV (b : Int) (K a)
  · have zb : baB K LV a b = true := by
      unfold baB gaB
      rw [decide_eq_true y, decide_eq_true w, decide_eq_true h1, decide_eq_true h2]
      rfl
    rw [if_neg (by omega), xZ_1, if_pos zb]
  · have zb : ¬ baB K LV a b = true := fun u => w (of_decide_eq_true (Bool.and_eq_true_iff.mp (Bool.and_eq_true_iff.mp u).2).1)
    rw [if_pos (by omega), xZ_0, if_neg zb]
theorem l_baM24 (m : ShM h 88) (k : KOk K) (hL : LwR K LV) (en : K 183 = (n : Int)) {i : Int} {a : Nat} (ha : a < n) : ∀ (q b c f : Nat) (I : Nat → Nat → Int), b + q = n → a < b → c + q ≤ 100 → I 90 = K → ∃ I1, AsFr I1 I ∧ lp (d + 47) 268 (f + q + 1) 24 [some (iR (some 88)), some (iI i), some (iI (c : Int)), some (iI (a : Int)), some (iI (b : Int))] [] (st h I J) = (match baR K LV i a q b c with
    | .inl v => some (oI (v : Int), st h I1 J)
    | .inr c' => lp (d + 47) 268 f 11 [some (iR (some 88)), some (iI i), some (iI (c' : Int)), some (iI ((a + 1 : Nat) : Int)), none] [] (st h I1 J)) := by
  have hn := k.1
  intro q
  induction q with
  | zero =>
    intro b c f I hb hab hc e90
    refine ⟨I, AsFr.rf I, ?_⟩
    rw [Nat.add_zero, e_M_bargains_24, yck (bT_88 m), m_many m (x := (n : Int)) (by rw [e90, en]), kI_o, if_neg (by omega), wr_id (x := (a : Int) + 1) (by omega) (by omega)]
    rfl
  | succ q ih =>
    intro b c f I hb hab hc e90
    obtain ⟨I1, a1, a2⟩ := m_bargain (d := d) (J := J) (I := I) m k hL en e90 (a := a) (b := b) ha (by omega) (by omega)
    have g90 : I1 90 = K := by rw [a1.1 90 (by omega) (by omega)]; exact e90
    have er : baR K LV i a (q + 1) b c = if baB K LV a b = true then (if (c : Int) = i then .inl (7 * a + b) else baR K LV i a q (b + 1) (c + 1)) else baR K LV i a q (b + 1) c := rfl
    rw [show f + (q + 1) + 1 = (f + q + 1) + 1 by omega, e_M_bargains_24, yck (bT_88 m), m_many m (x := (n : Int)) (by rw [e90, en]), kI_o, if_pos (by omega), yck (bT_88 m), a2, kI_o, wr_id (x := (b : Int) + 1) (by omega) (by omega), show (b : Int) + 1 = ((b + 1 : Nat) : Int) by omega, er]
    by_cases z : baB K LV a b = true
    · rw [if_pos z, if_neg (by omega), if_pos z]
      by_cases y : (c : Int) = i
      · refine ⟨I1, a1, ?_⟩
        rw [if_pos y, if_pos y, s_pairAt _ (by omega) (by omega), kI_o]
        rfl
      · obtain ⟨I2, b1, b2⟩ := ih (b + 1) (c + 1) f I1 (by omega) (by omega) (by omega) g90
        refine ⟨I2, b1.tr a1, ?_⟩
        rw [if_neg y, if_neg y, wr_id (x := (c : Int) + 1) (by omega) (by omega), show (c : Int) + 1 = ((c + 1 : Nat) : Int) by omega, b2]
    · obtain ⟨I2, b1, b2⟩ := ih (b + 1) c f I1 (by omega) (by omega) (by omega) g90
      refine ⟨I2, b1.tr a1, ?_⟩
      rw [if_neg z, if_pos rfl, if_neg z, b2]
theorem l_baM11 (m : ShM h 88) (k : KOk K) (hL : LwR K LV) (en : K 183 = (n : Int)) {i : Int} : ∀ (q a c f : Nat) (I : Nat → Nat → Int), a + q = n → c ≤ 7 * a → I 90 = K → ∃ I1, AsFr I1 I ∧ lp (d + 47) 268 (f + 10 * q + 1) 11 [some (iR (some 88)), some (iI i), some (iI (c : Int)), some (iI (a : Int)), none] [] (st h I J) = some (oI (baA K LV i n q a c), st h I1 J) := by
  have hn := k.1
  intro q
  induction q with
  | zero =>
    intro a c f I ha hc e90
    refine ⟨I, AsFr.rf I, ?_⟩
    rw [show f + 10 * 0 + 1 = f + 1 by omega, e_M_bargains_11, yck (bT_88 m), m_many m (x := (n : Int)) (by rw [e90, en]), kI_o, if_neg (by omega)]
    show _ = some (oI (if i = -1 then (c : Int) else -1), st h I J)
    by_cases z : i = -1
    · rw [if_pos z, if_pos z]
    · rw [if_neg z, if_neg z]
  | succ q ih =>
    intro a c f I ha hc e90
    obtain ⟨I1, a1, a2⟩ := l_baM24 (d := d) (J := J) m k hL en (i := i) (a := a) (by omega) (n - (a + 1)) (a + 1) c (f + 10 * q + 1 + (8 - (n - (a + 1)))) I (by omega) (by omega) (by omega) e90
    rw [show f + 10 * q + 1 + (8 - (n - (a + 1))) + (n - (a + 1)) + 1 = f + 10 * (q + 1) by omega] at a2
    have g90 : I1 90 = K := by rw [a1.1 90 (by omega) (by omega)]; exact e90
    rw [e_M_bargains_11, yck (bT_88 m), m_many m (x := (n : Int)) (by rw [e90, en]), kI_o, if_pos (by omega), wr_id (x := (a : Int) + 1) (by omega) (by omega), show (a : Int) + 1 = ((a + 1 : Nat) : Int) by omega, a2]
    have eA : baA K LV i n (q + 1) a c = (match baR K LV i a (n - (a + 1)) (a + 1) c with
      | .inl v => (v : Int)
      | .inr c' => baA K LV i n q (a + 1) c') := rfl
    rw [eA]
    cases er : baR K LV i a (n - (a + 1)) (a + 1) c with
    | inl v => exact ⟨I1, a1, rfl⟩
    | inr c' =>
      have := baR_le _ _ _ _ er
      obtain ⟨I2, b1, b2⟩ := ih (a + 1) c' (f + (8 - (n - (a + 1)))) I1 (by omega) (by omega) g90
      rw [show f + (8 - (n - (a + 1))) + 10 * q + 1 = f + 10 * q + 1 + (8 - (n - (a + 1))) by omega] at b2
      exact ⟨I2, b1.tr a1, b2⟩
theorem C_bargains (v : Inv L xs k h I) (hk : k < 1000) (x : Int) : Cal L xs k h I J 126 268 [iI x] := by
  obtain ⟨LW, o⟩ := v.now
  have s := v.t
  have m := v.m
  have kk := o.2.2.1
  have hn := kk.1
  have hL := lvOf_ok kk o.2.2.2.1
  have E : ∀ I1, TnQ I1 I → I1 90 = I 90 := fun I1 t => t 90 (by omega) (by omega) (by omega) (by omega)
  obtain ⟨n, en⟩ : ∃ n : Nat, I 90 183 = (n : Int) := ⟨(I 90 183).toNat, by omega⟩
  by_cases cx : x < -1
  · refine Cal.q v hk (-1) (fun d => ⟨I, J, TnQ.rf I, ?_⟩) fun d I1 J1 t => ⟨I1, J1, MnQ.rf I1, ?_⟩
    · rw [r_T_bargains, e_T_bargains, if_pos cx]
    · rw [r_M_bargains, e_M_bargains, if_pos cx]
  refine Cal.q v hk (baA (I 90) (lvOf (I 90) LW) x n n 0 0) (fun d => ?_) fun d I1 J1 t => ?_
  · obtain ⟨I1, a1, a2, a3, a4⟩ := s_fillL (d := d + 94) (J := J) o en
    have o1 := o.pp a1
    obtain ⟨I2, b1, b2, b3, b4⟩ := s_fillM (d := d + 93) (J := J) o1 en
    have hS : LkOk I2 n (I 90) (lvOf (I 90) LW) := fun t s ht hs => by rw [b2 77 (by omega)]; exact a4 t s ht hs
    have b5 := t_bargain (d := d + 97) (J := J) s (o1.pp b1) en hS b4 x
    refine ⟨I2, J, (b1.tr a1).tq, ?_⟩
    rw [r_T_bargains, e_T_bargains, if_neg cx, ygR (aT_3 s) (aR_3_11 s), ygR (aT_3 s) (aR_3_0 s), ygR (aT_3 s) (aR_3_6 s), xB_s, yck (aT_76 s), a3, kV_o, ygR (aT_3 s) (aR_3_11 s), ygR (aT_3 s) (aR_3_0 s), ygR (aT_3 s) (aR_3_6 s), xB_s, yck (aT_76 s), b3, kV_o, ygR (aT_3 s) (aR_3_11 s), ygR (aT_3 s) (aR_3_0 s), xB_s, yck (aT_76 s), b5, kI_o]
  · have e90 := E I1 t
    obtain ⟨I2, a1, a2⟩ := l_baM11 (d := d + 52) (J := J1) m kk hL en (i := x) n 0 0 (999998 - 10 * n) I1 (by omega) (by omega) e90
    rw [show 999998 - 10 * n + 10 * n + 1 = 999999 by omega] at a2
    have a2' : lp (d + 99) 268 999999 11 [some (iR (some 88)), some (iI x), some (iI 0), some (iI 0), none] [] (st h I1 J1) = _ := a2
    exact ⟨I2, J1, a1.mq, by rw [r_M_bargains, e_M_bargains, if_neg cx, a2']⟩
end P98i
