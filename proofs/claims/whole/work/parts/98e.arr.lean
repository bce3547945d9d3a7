/-! The arrangement most liked; all anew (by program, wip/whole/gen98e.py) -/
section P98e
variable {h : IH} {I I0 I1 I2 I' J : Nat → Nat → Int} {k L d n : Nat} {xs : Nat → Int32} {K K' : Nat → Int} {LW : Nat → Nat × (Nat → Cls)} {ok : Nat → Nat → Bool} {w : Nat → Nat → Int}
theorem sum_pos {f : Nat → Nat} {s : Nat} : ∀ {l : List Nat}, s ∈ l → f s ≠ 0 → (l.map f).sum ≠ 0
  | [], hm, _ => by cases hm
  | x :: l, hm, h0 => by
    rw [List.map_cons, List.sum_cons]
    rcases List.mem_cons.mp hm with q | q
    · rw [← q]
      omega
    · have := sum_pos q h0
      omega
theorem ways_pos {p : Nat → Nat} (hp : ∀ t, t < n → p t < n ∧ ok t (p t) = true) (inj : ∀ t u, t < n → u < n → p t = p u → t = u) : ∀ (m u : Nat), m ≤ n → (∀ s, u.testBit s = true ↔ ∃ t, t < n - m ∧ p t = s) → waysN n ok m u ≠ 0
  | 0, u, _, _ => by
    show (1 : Nat) ≠ 0
    omega
  | m + 1, u, hm, hu => by
    obtain ⟨q1, q2⟩ := hp (n - (m + 1)) (by omega)
    have hb : u.testBit (p (n - (m + 1))) = false := by
      cases hc : u.testBit (p (n - (m + 1))) with
      | false => rfl
      | true =>
        obtain ⟨t, t1, t2⟩ := (hu _).1 hc
        have := inj t (n - (m + 1)) (by omega) (by omega) t2
        omega
    have he : elg ok (n - (m + 1)) u (p (n - (m + 1))) = true := by
      unfold elg
      rw [q2, hb]
      rfl
    rw [waysN_s]
    unfold sumW
    refine sum_pos (s := p (n - (m + 1))) (List.mem_range.mpr q1) ?_
    show (if elg ok (n - (m + 1)) u (p (n - (m + 1))) then waysN n ok m (u ||| 2 ^ p (n - (m + 1))) else 0) ≠ 0
    rw [if_pos he]
    refine ways_pos hp inj m _ (by omega) fun s => ?_
    rw [Nat.testBit_or, Nat.testBit_two_pow, Bool.or_eq_true, decide_eq_true_eq, hu s]
    constructor
    · rintro (⟨t, t1, t2⟩ | z)
      · exact ⟨t, by omega, t2⟩
      · exact ⟨n - (m + 1), by omega, z⟩
    · rintro ⟨t, t1, t2⟩
      by_cases c : t < n - (m + 1)
      · exact Or.inl ⟨t, c, t2⟩
      · exact Or.inr (by rw [← t2, show t = n - (m + 1) by omega])
theorem ways_0 (k : KOk K) {L : LwV} (en : K 183 = (n : Int)) : waysN n (okM K L 0) n 0 ≠ 0 := by
  refine ways_pos (p := fun t => (K t).toNat) (fun t ht => ?_) (fun t u ht hu e => ?_) n 0 (Nat.le_refl n) fun s => ?_
  · have h1 := k.2.1.1 t (by omega)
    refine ⟨by show (K t).toNat < n; omega, ?_⟩
    unfold okM
    have e : haveK K L (t : Int) (((K t).toNat : Nat) : Int) = 1 := by
      unfold haveK
      rw [show (((K t).toNat : Nat) : Int) = K t by omega, atK_of k (by omega), if_pos rfl]
    rw [e]
    rfl
  · have h1 := k.2.1.1 t (by omega)
    have h2 := k.2.1.1 u (by omega)
    have e' : (K t).toNat = (K u).toNat := e
    exact k.inj (by omega) (by omega) (by omega)
  · rw [Nat.zero_testBit]
    constructor
    · intro z
      cases z
    · rintro ⟨t, t1, -⟩
      omega
theorem fillN_ge : ∀ (m u : Nat) (row : Nat → Int), (∀ i, -1 ≤ row i) → ∀ i, -1 ≤ fillN n ok w m u row i
  | 0, _, row, hr, i => hr i
  | m + 1, u, row, hr, i => by
    refine fillN_ge m _ _ (fun j => ?_) i
    unfold updR
    split
    · omega
    · exact hr j
/-- what both find -/
theorem t_arr (o : NowOk h I K LW) (en : K 183 = (n : Int)) {an : Int} (ha : an = 0 ∨ an = 1) {i : Int} (hi : i = -1 ∨ (0 ≤ i ∧ i < (n : Int))) : ∃ I1, PpFr I1 I ∧ rn (d + 7) (if an = 0 then 30 else 31) [iR (some 76), iR (some 4), iR (some 52)] (st h I J) = some (o0, st h I1 J) ∧ I1 4 0 = (n : Int) ∧ ∀ e : Nat, ∃ I2, PpFr I2 I ∧ rn (e + 4) 35 [iR (some 76), iI (n : Int), iI i] (st h I1 J) = some (oI (if waysN n (okM K (lvOf K LW) an) n 0 = 0 then BRK else if i = -1 then bestN n (okM K (lvOf K LW) an) (wM K (lvOf K LW) an n) n 0 else fillN n (okM K (lvOf K LW) an) (wM K (lvOf K LW) an n) n 0 (fun _ => -1) i.toNat), st h I2 J) := by
  have hn := o.2.2.1.1
  have key : ∀ I1, PpFr I1 I → WtOk I1 n (okM K (lvOf K LW) an) (wM K (lvOf K LW) an n) → I1 4 0 = (n : Int) ∧ ∀ e : Nat, ∃ I2, PpFr I2 I ∧ rn (e + 4) 35 [iR (some 76), iI (n : Int), iI i] (st h I1 J) = some (oI (if waysN n (okM K (lvOf K LW) an) n 0 = 0 then BRK else if i = -1 then bestN n (okM K (lvOf K LW) an) (wM K (lvOf K LW) an n) n 0 else fillN n (okM K (lvOf K LW) an) (wM K (lvOf K LW) an n) n 0 (fun _ => -1) i.toNat), st h I2 J) := fun I1 f hW => by
    refine ⟨by rw [f 4 (by omega) (by omega), o.2.1.1, en], fun e => ?_⟩
    obtain ⟨I2, b1, b2⟩ := s_arranged (d := e) (J := J) o.1 (by omega) (fun t s => wM_in o.2.2.1 en.symm an t s) hW hi
    exact ⟨I2, fun b q1 q2 => by rw [b1 b (by omega) (by omega), f b q1 q2], b2⟩
  rcases ha with rfl | rfl
  · obtain ⟨I1, a1, a2, a3⟩ := s_weighL (d := d) (J := J) o en
    exact ⟨I1, a1, by rw [if_pos rfl]; exact a2, key I1 a1 a3⟩
  · obtain ⟨I1, a1, a2, a3⟩ := s_weighM (d := d) (J := J) o en
    exact ⟨I1, a1, by rw [if_neg (by omega)]; exact a2, key I1 a1 a3⟩
theorem m_arr (m : ShM h 88) {LV : LwV} (k : KOk (I 90)) (hL : LwR (I 90) LV) (en : I 90 183 = (n : Int)) {an : Int} (ha : an = 0 ∨ an = 1) : ∃ I1, MnQ I1 I ∧ rn (d + 47) 249 [iR (some 88), iI an] (st h I J) = some (o0, st h I1 J) ∧ ∀ e : Nat, ∃ I2, MnQ I2 I ∧ rn (e + 3) 250 [iR (some 88)] (st h I1 J) = some (o0, st h I2 J) ∧ I2 88 38 = ((waysN n (okM (I 90) LV an) n 0 : Nat) : Int) ∧ (waysN n (okM (I 90) LV an) n 0 ≠ 0 → I2 88 37 = bestN n (okM (I 90) LV an) (wM (I 90) LV an n) n 0 ∧ ∀ k, k < n → I2 105 k = fillN n (okM (I 90) LV an) (wM (I 90) LV an n) n 0 (fun _ => -1) k) := by
  have hn := k.1
  obtain ⟨I1, a1, a2, a3⟩ := s_worths (d := d) (J := J) m k hL en ha
  refine ⟨I1, a1.mq, a2, fun e => ?_⟩
  obtain ⟨I2, b1, b2, b3, b4⟩ := s_through_m (d := e) (J := J) m (by omega) (fun t s => wM_in k en.symm an t s) (by rw [a1.1 90 (by omega) (by omega) (by omega) (by omega)]; exact en) a3
  exact ⟨I2, b1.mq.tr a1.mq, b2, b3, b4⟩
theorem C_mostLiked (v : Inv L xs k h I) (hk : k < 1000) (x : Int) : Cal L xs k h I J 121 253 [iI x] := by
  obtain ⟨LW, o⟩ := v.now
  have s := v.t
  have m := v.m
  have kk := o.2.2.1
  have hn := kk.1
  have hL := lvOf_ok kk o.2.2.2.1
  have E : ∀ I1, TnQ I1 I → I1 90 = I 90 := fun I1 t => t 90 (by omega) (by omega) (by omega) (by omega)
  obtain ⟨n, en⟩ : ∃ n : Nat, I 90 183 = (n : Int) := ⟨(I 90 183).toNat, by omega⟩
  by_cases c : x = -1 ∨ (0 ≤ x ∧ x < (n : Int))
  case neg =>
    have c1 : ¬ x = -1 := fun z => c (Or.inl z)
    have c2 : ¬ (0 ≤ x ∧ x < I 90 183) := fun z => c (Or.inr (by omega))
    refine Cal.q v hk (-1) (fun d => ⟨I, J, TnQ.rf I, ?_⟩) fun d I1 J1 t => ⟨I1, J1, MnQ.rf I1, ?_⟩
    · rw [r_T_mostLiked, e_T_mostLiked, if_neg c1, ygR (aT_3 s) (aR_3_0 s), xB_s, yck (aT_4 s), t_isT (d := d + 98) o x, kI_o, if_neg c2, if_pos rfl]
    · have e90 := E I1 t
      rw [r_M_mostLiked, e_M_mostLiked, if_neg c1, yck (bT_88 m), m_isT (d := d + 97) m x e90 hn, kI_o, if_neg c2, if_pos rfl]
  have hw := ways_0 (L := lvOf (I 90) LW) kk en
  refine Cal.q v hk (if x = -1 then bestN n (okM (I 90) (lvOf (I 90) LW) 0) (wM (I 90) (lvOf (I 90) LW) 0 n) n 0 else fillN n (okM (I 90) (lvOf (I 90) LW) 0) (wM (I 90) (lvOf (I 90) LW) 0 n) n 0 (fun _ => -1) x.toNat) (fun d => ?_) fun d I1 J1 t => ?_
  · obtain ⟨I1, a1, a2, a3, bb⟩ := t_arr (d := d + 92) (J := J) o en (an := 0) (Or.inl rfl) c
    obtain ⟨I2, b1, b2⟩ := bb (d + 95)
    rw [if_pos rfl] at a2
    rw [if_neg hw] at b2
    refine ⟨I2, J, b1.tq, ?_⟩
    rw [r_T_mostLiked, e_T_mostLiked]
    by_cases c1 : x = -1
    · rw [if_pos c1, ygR (aT_3 s) (aR_3_11 s), ygR (aT_3 s) (aR_3_0 s), ygR (aT_3 s) (aR_3_6 s), xB_s, yck (aT_76 s), a2, kV_o, ygR (aT_3 s) (aR_3_11 s), ygR (aT_3 s) (aR_3_0 s), xB_s, ygIv (aT_4 s) a3, xB_s, yck (aT_76 s), b2, kI_o]
    · have c2 : 0 ≤ x ∧ x < I 90 183 := by omega
      rw [if_neg c1, ygR (aT_3 s) (aR_3_0 s), xB_s, yck (aT_4 s), t_isT (d := d + 98) o x, kI_o, if_pos c2, if_neg (by omega), ygR (aT_3 s) (aR_3_11 s), ygR (aT_3 s) (aR_3_0 s), ygR (aT_3 s) (aR_3_6 s), xB_s, yck (aT_76 s), a2, kV_o, ygR (aT_3 s) (aR_3_11 s), ygR (aT_3 s) (aR_3_0 s), xB_s, ygIv (aT_4 s) a3, xB_s, yck (aT_76 s), b2, kI_o]
  · have e90 := E I1 t
    obtain ⟨I3, a1, a2, bb⟩ := m_arr (d := d + 52) (J := J1) (I := I1) (n := n) (LV := lvOf (I 90) LW) m (by rw [e90]; exact kk) (by rw [e90]; exact hL) (by rw [e90]; exact en) (an := 0) (Or.inl rfl)
    obtain ⟨I2, b1, b2, b3, b45⟩ := bb (d + 96)
    rw [e90] at b3 b45
    obtain ⟨b4, b5⟩ := b45 hw
    refine ⟨I2, J1, b1, ?_⟩
    rw [r_M_mostLiked, e_M_mostLiked]
    by_cases c1 : x = -1
    · rw [if_pos c1, yck (bT_88 m), a2, kV_o, yck (bT_88 m), b2, kV_o, if_pos c1, ygIv (bT_88 m) b4, if_pos c1]
    · have c2 : 0 ≤ x ∧ x < I 90 183 := by omega
      rw [if_neg c1, yck (bT_88 m), m_isT (d := d + 97) m x e90 hn, kI_o, if_pos c2, if_neg (by omega), yck (bT_88 m), a2, kV_o, yck (bT_88 m), b2, kV_o, if_neg c1, ygR (bT_88 m) (bR_34 m), xB_s, yaIv (i := x.toNat) (bT_105 m) (bL_105 m) (by omega) (by omega) (b5 _ (by omega)), if_neg c1]
theorem C_anew (v : Inv L xs k h I) (hk : k < 1000) (x : Int) : Cal L xs k h I J 122 254 [iI x] := by
  obtain ⟨LW, o⟩ := v.now
  have s := v.t
  have m := v.m
  have kk := o.2.2.1
  have hn := kk.1
  have hL := lvOf_ok kk o.2.2.2.1
  have E : ∀ I1, TnQ I1 I → I1 90 = I 90 := fun I1 t => t 90 (by omega) (by omega) (by omega) (by omega)
  obtain ⟨n, en⟩ : ∃ n : Nat, I 90 183 = (n : Int) := ⟨(I 90 183).toNat, by omega⟩
  by_cases c : x = -1 ∨ (0 ≤ x ∧ x < (n : Int))
  case neg =>
    have c1 : ¬ x = -1 := fun z => c (Or.inl z)
    have c2 : ¬ (0 ≤ x ∧ x < I 90 183) := fun z => c (Or.inr (by omega))
    refine Cal.q v hk (-1) (fun d => ⟨I, J, TnQ.rf I, ?_⟩) fun d I1 J1 t => ⟨I1, J1, MnQ.rf I1, ?_⟩
    · rw [r_T_anew, e_T_anew, if_neg c1, ygR (aT_3 s) (aR_3_0 s), xB_s, yck (aT_4 s), t_isT (d := d + 98) o x, kI_o, if_neg c2, if_pos rfl]
    · have e90 := E I1 t
      rw [r_M_anew, e_M_anew, if_neg c1, yck (bT_88 m), m_isT (d := d + 97) m x e90 hn, kI_o, if_neg c2, if_pos rfl]
  have hb := bestN_bd (n := n) (ok := okM (I 90) (lvOf (I 90) LW) 1) (fun t s => wM_in kk (L := lvOf (I 90) LW) en.symm 1 t s) n 0
  have hf := fillN_ge (n := n) (ok := okM (I 90) (lvOf (I 90) LW) 1) (w := wM (I 90) (lvOf (I 90) LW) 1 n) n 0 (fun _ => -1) (fun _ => Int.le_refl _)
  have hB : BRK = -2147483648 := rfl
  refine Cal.q v hk (if waysN n (okM (I 90) (lvOf (I 90) LW) 1) n 0 = 0 then -1 else if x = -1 then -(bestN n (okM (I 90) (lvOf (I 90) LW) 1) (wM (I 90) (lvOf (I 90) LW) 1 n) n 0) else fillN n (okM (I 90) (lvOf (I 90) LW) 1) (wM (I 90) (lvOf (I 90) LW) 1 n) n 0 (fun _ => -1) x.toNat) (fun d => ?_) fun d I1 J1 t => ?_
  · obtain ⟨I1, a1, a2, a3, bb⟩ := t_arr (d := d + 92) (J := J) o en (an := 1) (Or.inr rfl) c
    obtain ⟨I2, b1, b2⟩ := bb (d + 95)
    rw [if_neg (show ¬ (1 : Int) = 0 by omega)] at a2
    refine ⟨I2, J, b1.tq, ?_⟩
    have e18 : ∀ f, lp (d + 99) 122 (f + 1) 18 [some (iR (some 3)), some (iI x), none] [] (st h I J) = some (oI (if waysN n (okM (I 90) (lvOf (I 90) LW) 1) n 0 = 0 then -1 else if x = -1 then -(bestN n (okM (I 90) (lvOf (I 90) LW) 1) (wM (I 90) (lvOf (I 90) LW) 1 n) n 0) else fillN n (okM (I 90) (lvOf (I 90) LW) 1) (wM (I 90) (lvOf (I 90) LW) 1 n) n 0 (fun _ => -1) x.toNat), st h I2 J) := fun f => by
      rw [e_T_anew_18, ygR (aT_3 s) (aR_3_11 s), ygR (aT_3 s) (aR_3_0 s), ygR (aT_3 s) (aR_3_6 s), xB_s, yck (aT_76 s), a2, kV_o, ygR (aT_3 s) (aR_3_11 s), ygR (aT_3 s) (aR_3_0 s), xB_s, ygIv (aT_4 s) a3, xB_s, yck (aT_76 s), b2, kI_o]
      by_cases z : waysN n (okM (I 90) (lvOf (I 90) LW) 1) n 0 = 0
      · rw [if_pos z, if_pos z, if_pos hB]
      · rw [if_neg z, if_neg z]
        by_cases c1 : x = -1
        · rw [if_pos c1, if_pos c1, if_neg (by omega), if_pos c1, wr_id (by omega) (by omega)]
        · have := hf x.toNat
          rw [if_neg c1, if_neg c1, if_neg (by omega), if_neg c1]
    have e18' := e18 999998
    rw [r_T_anew, e_T_anew]
    by_cases c1 : x = -1
    · rw [if_pos c1]
      exact e18'
    · have c2 : 0 ≤ x ∧ x < I 90 183 := by omega
      rw [if_neg c1, ygR (aT_3 s) (aR_3_0 s), xB_s, yck (aT_4 s), t_isT (d := d + 98) o x, kI_o, if_pos c2, if_neg (by omega)]
      exact e18'
  · have e90 := E I1 t
    obtain ⟨I3, a1, a2, bb⟩ := m_arr (d := d + 52) (J := J1) (I := I1) (n := n) (LV := lvOf (I 90) LW) m (by rw [e90]; exact kk) (by rw [e90]; exact hL) (by rw [e90]; exact en) (an := 1) (Or.inr rfl)
    obtain ⟨I2, b1, b2, b3, b45⟩ := bb (d + 96)
    rw [e90] at b3 b45
    refine ⟨I2, J1, b1, ?_⟩
    rw [r_M_anew, e_M_anew]
    by_cases z : waysN n (okM (I 90) (lvOf (I 90) LW) 1) n 0 = 0
    · rw [z] at b3
      by_cases c1 : x = -1
      · rw [if_pos c1, yck (bT_88 m), a2, kV_o, yck (bT_88 m), b2, kV_o, ygIv (bT_88 m) b3, if_pos (show (((0 : Nat) : Int)) = 0 from rfl), if_pos z]
      · have c2 : 0 ≤ x ∧ x < I 90 183 := by omega
        rw [if_neg c1, yck (bT_88 m), m_isT (d := d + 97) m x e90 hn, kI_o, if_pos c2, if_neg (by omega), yck (bT_88 m), a2, kV_o, yck (bT_88 m), b2, kV_o, ygIv (bT_88 m) b3, if_pos (show (((0 : Nat) : Int)) = 0 from rfl), if_pos z]
    · obtain ⟨b4, b5⟩ := b45 z
      by_cases c1 : x = -1
      · rw [if_pos c1, yck (bT_88 m), a2, kV_o, yck (bT_88 m), b2, kV_o, ygIv (bT_88 m) b3, if_neg (by omega), if_pos c1, ygIv (bT_88 m) b4, if_neg z, if_pos c1, wr_id (by omega) (by omega)]
      · have c2 : 0 ≤ x ∧ x < I 90 183 := by omega
        rw [if_neg c1, yck (bT_88 m), m_isT (d := d + 97) m x e90 hn, kI_o, if_pos c2, if_neg (by omega), yck (bT_88 m), a2, kV_o, yck (bT_88 m), b2, kV_o, ygIv (bT_88 m) b3, if_neg (by omega), if_neg c1, ygR (bT_88 m) (bR_34 m), xB_s, yaIv (i := x.toNat) (bT_105 m) (bL_105 m) (by omega) (by omega) (b5 _ (by omega)), if_neg z, if_neg c1]
theorem C_newOnes (v : Inv L xs k h I) (hk : k < 1000) : Cal L xs k h I J 123 255 [] := by
  obtain ⟨LW, o⟩ := v.now
  have s := v.t
  have m := v.m
  have kk := o.2.2.1
  have hn := kk.1
  have hL := lvOf_ok kk o.2.2.2.1
  have E : ∀ I1, TnQ I1 I → I1 90 = I 90 := fun I1 t => t 90 (by omega) (by omega) (by omega) (by omega)
  obtain ⟨n, en⟩ : ∃ n : Nat, I 90 183 = (n : Int) := ⟨(I 90 183).toNat, by omega⟩
  refine Cal.q v hk ((waysN n (okM (I 90) (lvOf (I 90) LW) 1) n 0 : Nat) : Int) (fun d => ?_) fun d I1 J1 t => ?_
  · obtain ⟨I1, a1, a2, a3⟩ := s_weighM (d := d + 92) (J := J) o en
    obtain ⟨I2, b1, b2, -⟩ := s_count (d := d + 96) (J := J) s (by omega) (fun t s => wM_in kk en.symm 1 t s) a3
    refine ⟨I2, J, fun b q1 q2 q3 q4 => by rw [b1 b (by omega) (by omega), a1 b (by omega) (by omega)], ?_⟩
    rw [r_T_newOnes, e_T_newOnes, ygR (aT_3 s) (aR_3_11 s), ygR (aT_3 s) (aR_3_0 s), ygR (aT_3 s) (aR_3_6 s), xB_s, yck (aT_76 s), a2, kV_o, ygR (aT_3 s) (aR_3_11 s), ygR (aT_3 s) (aR_3_0 s), xB_s, ygIv (x := (n : Int)) (aT_4 s) (by rw [a1 4 (by omega) (by omega), o.2.1.1, en]), xB_s, yck (aT_76 s), b2, kI_o]
  · have e90 := E I1 t
    obtain ⟨I3, a1, a2, bb⟩ := m_arr (d := d + 52) (J := J1) (I := I1) (n := n) (LV := lvOf (I 90) LW) m (by rw [e90]; exact kk) (by rw [e90]; exact hL) (by rw [e90]; exact en) (an := 1) (Or.inr rfl)
    obtain ⟨I2, b1, b2, b3, b45⟩ := bb (d + 96)
    rw [e90] at b3 b45
    refine ⟨I2, J1, b1, ?_⟩
    rw [r_M_newOnes, e_M_newOnes, yck (bT_88 m), a2, kV_o, yck (bT_88 m), b2, kV_o, ygIv (bT_88 m) b3]
end P98e
