/-! envy, canBe, ask (by program, wip/whole/gen98g.py) -/
theorem ior0_ok : ((List.range 128).all fun u => decide (ior (u : Int) 0 = (u : Int))) = true := by decide +kernel
theorem ior0 {u : Nat} (hu : u < 128) : ior (u : Int) 0 = (u : Int) := of_decide_eq_true (List.all_eq_true.mp ior0_ok u (List.mem_range.mpr hu))
theorem pw128 {k : Nat} (hk : k ≤ 7) : 2 ^ k ≤ 128 := (pow_7 hk).2
theorem mkB_128 (f : Nat → Bool) {k : Nat} (hk : k ≤ 7) : mkB f k < 128 := Nat.lt_of_lt_of_le (mkB_lt f hk) (pw128 hk)
theorem mkB_y {f : Nat → Bool} {c : Nat} (hc : c < 7) (hf : f c = true) : ior ((mkB f c : Nat) : Int) (ishl 1 (c : Int)) = ((mkB f (c + 1) : Nat) : Int) := by
  rw [(bitI (mkB_128 f (by omega)) hc).1]
  show ((mkB f c ||| 2 ^ c : Nat) : Int) = (((if f c = true then mkB f c ||| 2 ^ c else mkB f c) : Nat) : Int)
  rw [if_pos hf]
theorem mkB_n {f : Nat → Bool} {c : Nat} (hf : ¬ f c = true) : mkB f (c + 1) = mkB f c := if_neg hf
noncomputable def envB (K : Nat → Int) (L : LwV) (t u : Nat) : Bool := decide (likeK K L (t : Int) (K t) < likeK K L (t : Int) (K u))
noncomputable def soB (K : Nat → Int) (L : LwV) (t : Nat) : Nat → Bool
  | 0 => true
  | i + 1 => soB K L t i && decide (likeK K L (t : Int) (K (169 + 2 * i)) = K (170 + 2 * i))
section P98g
variable {h : IH} {I I0 I1 I2 I' J : Nat → Nat → Int} {k L d n : Nat} {xs : Nat → Int32} {K K' : Nat → Int} {LW : Nat → Nat × (Nat → Cls)} {LV : LwV}
theorem l_envT (o : NowOk h I0 K LW) (en : K 183 = (n : Int)) {t : Nat} (ht : t < n) : ∀ (q c f : Nat) (I : Nat → Nat → Int), c + q = n → PpFr I I0 → ∃ I1, PpFr I1 I0 ∧ lp (d + 4) 127 (f + q + 1) 50 [some (iR (some 3)), some (iI (t : Int)), some (iR (lawOf h I0 4)), some (iI (likeK K (lvOf K LW) t (K t))), some (iI (mkB (envB K (lvOf K LW) t) c : Nat)), some (iI (c : Int))] [] (st h I J) = some (oI (mkB (envB K (lvOf K LW) t) n : Nat), st h I1 J) := by
  have hn := o.2.2.1.1
  have s := o.1
  intro q
  induction q with
  | zero =>
    intro c f I hc fr
    have oo := o.pp fr
    refine ⟨I, fr, ?_⟩
    rw [Nat.add_zero, e_T_envy_50, ygR (aT_3 s) (aR_3_0 s), xB_s, ygIv (x := (n : Int)) (aT_4 s) (by rw [oo.2.1.1, en]), if_neg (by omega), show c = n by omega]
  | succ q ih =>
    intro c f I hc fr
    have oo := o.pp fr
    have hb := o.2.2.1.2.1.1 c (by omega)
    obtain ⟨I1, a1, -, a2⟩ := t_like (d := d) (J := J) oo (t := (t : Int)) (u := K c) (by omega) hb
    rw [lawOf_pp fr] at a2
    obtain ⟨I2, b1, b2⟩ := ih (c + 1) f I1 (by omega) (a1.tr fr)
    refine ⟨I2, b1, ?_⟩
    rw [show f + (q + 1) + 1 = (f + q + 1) + 1 by omega, e_T_envy_50, ygR (aT_3 s) (aR_3_0 s), xB_s, ygIv (x := (n : Int)) (aT_4 s) (by rw [oo.2.1.1, en]), if_pos (by omega), ygR (aT_3 s) (aR_3_6 s), ygR (aT_3 s) (aR_3_0 s), ygR (aT_3 s) (aR_3_0 s), xB_s, ygR (aT_4 s) (aR_4_1 s), xB_s, yaIv (i := c) (x := K c) (aT_5 s) (aL_5 s) rfl (by omega) (oo.2.1.has o.2.2.1 (u := c) (by omega)), xB_s, yck (aT_52 s), a2, kI_o, wr_id (x := (c : Int) + 1) (by omega) (by omega), show (c : Int) + 1 = ((c + 1 : Nat) : Int) by omega]
    by_cases z : envB K (lvOf K LW) t c = true
    · have z' : likeK K (lvOf K LW) t (K t) < likeK K (lvOf K LW) t (K c) := of_decide_eq_true z
      rw [if_neg (by omega), mkB_y (by omega) z]
      exact b2
    · have z' : ¬ likeK K (lvOf K LW) t (K t) < likeK K (lvOf K LW) t (K c) := fun y => z (decide_eq_true y)
      rw [if_pos (by omega), ← mkB_n z]
      exact b2
theorem l_envM (m : ShM h 88) (k : KOk K) (hL : LwR K LV) (en : K 183 = (n : Int)) {t : Nat} (ht : t < n) : ∀ (q c f : Nat) (I : Nat → Nat → Int), c + q = n → I 90 = K → ∃ I1, AsFr I1 I ∧ lp (d + 44) 269 (f + q + 1) 29 [some (iR (some 88)), some (iI (t : Int)), some (iI (likeK K LV t (K t))), some (iI (mkB (envB K LV t) c : Nat)), some (iI (c : Int))] [] (st h I J) = some (oI (mkB (envB K LV t) n : Nat), st h I1 J) := by
  have hn := k.1
  intro q
  induction q with
  | zero =>
    intro c f I hc e90
    refine ⟨I, AsFr.rf I, ?_⟩
    rw [Nat.add_zero, e_M_envy_29, yck (bT_88 m), m_many m (x := (n : Int)) (by rw [e90, en]), kI_o, if_neg (by omega), show c = n by omega]
  | succ q ih =>
    intro c f I hc e90
    have hb := k.2.1.1 c (by omega)
    obtain ⟨I1, a1, a2⟩ := m_like (d := d) (J := J) (I := I) (L := LV) m (by rw [e90]; exact k) (by rw [e90]; exact hL) (t := (t : Int)) (u := K c) (by rw [e90]; omega) (by rw [e90]; omega)
    rw [e90] at a2
    obtain ⟨I2, b1, b2⟩ := ih (c + 1) f I1 (by omega) (by rw [a1.1 90 (by omega) (by omega)]; exact e90)
    refine ⟨I2, b1.tr a1, ?_⟩
    rw [show f + (q + 1) + 1 = (f + q + 1) + 1 by omega, e_M_envy_29, yck (bT_88 m), m_many m (x := (n : Int)) (by rw [e90, en]), kI_o, if_pos (by omega), ygR (bT_88 m) (bR_2 m), xB_s, yaIv (i := c) (x := K c) (bT_90 m) (bL_90 m) (by rw [wr_id (by omega) (by omega)]; omega) (by omega) (by rw [e90]), yck (bT_88 m), a2, kI_o, wr_id (x := (c : Int) + 1) (by omega) (by omega), show (c : Int) + 1 = ((c + 1 : Nat) : Int) by omega, ior0 (mkB_128 _ (by omega))]
    by_cases z : envB K LV t c = true
    · have z' : likeK K LV t (K t) < likeK K LV t (K c) := of_decide_eq_true z
      rw [if_neg (by omega), mkB_y (by omega) z]
      exact b2
    · have z' : ¬ likeK K LV t (K t) < likeK K LV t (K c) := fun y => z (decide_eq_true y)
      rw [if_pos (by omega), ← mkB_n z]
      exact b2
theorem C_envy (v : Inv L xs k h I) (hk : k < 1000) (x : Int) : Cal L xs k h I J 127 269 [iI x] := by
  obtain ⟨LW, o⟩ := v.now
  have s := v.t
  have m := v.m
  have kk := o.2.2.1
  have hn := kk.1
  have hL := lvOf_ok kk o.2.2.2.1
  have E : ∀ I1, TnQ I1 I → I1 90 = I 90 := fun I1 t => t 90 (by omega) (by omega) (by omega) (by omega)
  obtain ⟨n, en⟩ : ∃ n : Nat, I 90 183 = (n : Int) := ⟨(I 90 183).toNat, by omega⟩
  by_cases c1 : 0 ≤ x ∧ x < I 90 183
  case neg =>
    refine Cal.q v hk (-1) (fun d => ⟨I, J, TnQ.rf I, ?_⟩) fun d I1 J1 t => ⟨I1, J1, MnQ.rf I1, ?_⟩
    · rw [r_T_envy, e_T_envy, ygR (aT_3 s) (aR_3_0 s), xB_s, yck (aT_4 s), t_isT (d := d + 98) o x, kI_o, if_neg c1, if_pos rfl]
    · have e90 := E I1 t
      rw [r_M_envy, e_M_envy, yck (bT_88 m), m_isT (d := d + 97) m x e90 hn, kI_o, if_neg c1, if_pos rfl]
  obtain ⟨x, rfl⟩ : ∃ x' : Nat, x = (x' : Int) := ⟨x.toNat, by omega⟩
  have hb := kk.2.1.1 x c1.2
  refine Cal.q v hk (mkB (envB (I 90) (lvOf (I 90) LW) x) n : Nat) (fun d => ?_) fun d I1 J1 t => ?_
  · obtain ⟨I1, a1, -, a2⟩ := t_like (d := d + 95) (J := J) o (t := (x : Int)) (u := I 90 x) (by omega) hb
    obtain ⟨I2, b1, b2⟩ := l_envT (d := d + 95) (J := J) o en (t := x) (by omega) n 0 (999998 - n) I1 (by omega) a1
    rw [show 999998 - n + n + 1 = 999999 by omega] at b2
    have b2' : lp (d + 99) 127 999999 50 [some (iR (some 3)), some (iI (x : Int)), some (iR (lawOf h I 4)), some (iI (likeK (I 90) (lvOf (I 90) LW) x (I 90 x))), some (iI 0), some (iI 0)] [] (st h I1 J) = _ := b2
    refine ⟨I2, J, b1.tq, ?_⟩
    rw [r_T_envy, e_T_envy, ygR (aT_3 s) (aR_3_0 s), xB_s, yck (aT_4 s), t_isT (d := d + 98) o x, kI_o, if_pos c1, if_neg (by omega), ygR (aT_3 s) (aR_3_0 s), xB_s, yck (aT_4 s), t_law (d := d + 97) o, kR_o, ygR (aT_3 s) (aR_3_6 s), ygR (aT_3 s) (aR_3_0 s), ygR (aT_3 s) (aR_3_0 s), xB_s, ygR (aT_4 s) (aR_4_1 s), xB_s, yaIv (i := x) (x := I 90 x) (aT_5 s) (aL_5 s) rfl (by omega) (o.2.1.has kk c1.2), xB_s, yck (aT_52 s), a2, kI_o, b2']
  · have e90 := E I1 t
    obtain ⟨I2, a1, a2⟩ := m_like (d := d + 55) (J := J1) (I := I1) (L := lvOf (I 90) LW) m (by rw [e90]; exact kk) (by rw [e90]; exact hL) (t := (x : Int)) (u := I 90 x) (by rw [e90]; omega) (by rw [e90]; omega)
    rw [e90] at a2
    obtain ⟨I3, b1, b2⟩ := l_envM (d := d + 55) (J := J1) m kk hL en (t := x) (by omega) n 0 (999998 - n) I2 (by omega) (by rw [a1.1 90 (by omega) (by omega)]; exact e90)
    rw [show 999998 - n + n + 1 = 999999 by omega] at b2
    have b2' : lp (d + 99) 269 999999 29 [some (iR (some 88)), some (iI (x : Int)), some (iI (likeK (I 90) (lvOf (I 90) LW) x (I 90 x))), some (iI 0), some (iI 0)] [] (st h I2 J1) = _ := b2
    refine ⟨I3, J1, (b1.tr a1).mq, ?_⟩
    rw [r_M_envy, e_M_envy, yck (bT_88 m), m_isT (d := d + 97) m x e90 hn, kI_o, if_pos c1, if_neg (by omega), ygR (bT_88 m) (bR_2 m), xB_s, yaIv (i := x) (x := I 90 x) (bT_90 m) (bL_90 m) (by rw [wr_id (by omega) (by omega)]; omega) (by omega) (by rw [e90]), yck (bT_88 m), a2, kI_o, b2']
/-- which towns it could be -/
theorem l_soT (s : ShT h) {I : Nat → Nat → Int} (o : NowOk h I K LW) (en : K 183 = (n : Int)) {c : Nat} (ec : K 184 = (c : Int)) (hS : LkOk I n K LV) {t : Nat} (ht : t < n) (S : Int) : ∀ (q i f : Nat), i + q = c → lp d 43 (f + q + 1) 18 [some (iR (some 76)), some (iR (some 4)), some (iI S), some (iI (t : Int)), some (iI (if soB K LV t i = true then 1 else 0)), some (iI (i : Int))] [] (st h I J) = lp d 43 f 4 [some (iR (some 76)), some (iR (some 4)), some (iI (if soB K LV t c = true then ior S (ishl 1 (t : Int)) else S)), some (iI ((t + 1 : Nat) : Int)), none, none] [] (st h I J) := by
  have hn := o.2.2.1.1
  have k8 := o.2.2.1.2.2.2.2.1
  have e11 : I 4 11 = (c : Int) := o.2.1.2.2.2.2.1.1.trans ec
  intro q
  induction q with
  | zero =>
    intro i f hi
    rw [Nat.add_zero, e_Pa_possible_18, xB_s, ygIv (aT_4 s) e11, if_neg (by omega), wr_id (x := (t : Int) + 1) (by omega) (by omega), show (t : Int) + 1 = ((t + 1 : Nat) : Int) by omega, show i = c by omega]
    by_cases z : soB K LV t c = true
    · rw [if_pos z, if_pos z, if_neg (by omega)]
    · rw [if_neg z, if_neg z, if_pos rfl]
  | succ q ih =>
    intro i f hi
    have i0 := ih (i + 1) f (by omega)
    have hu := k8.2 i (by omega)
    have e9 : I 13 i = K (169 + 2 * i) := (o.2.1.2.2.2.2.1.2 i (by omega)).1
    have e10 : I 14 i = K (170 + 2 * i) := (o.2.1.2.2.2.2.1.2 i (by omega)).2
    have es : soB K LV t (i + 1) = (soB K LV t i && decide (likeK K LV (t : Int) (K (169 + 2 * i)) = K (170 + 2 * i))) := rfl
    have ev := hS t (K (169 + 2 * i)).toNat ht (by omega)
    rw [show (((K (169 + 2 * i)).toNat : Nat) : Int) = K (169 + 2 * i) by omega] at ev
    by_cases z : soB K LV t i = true
    · rw [if_pos z, show f + (q + 1) + 1 = (f + q + 1) + 1 by omega, e_Pa_possible_18, xB_s, ygIv (aT_4 s) e11, if_pos (by omega), if_pos (by omega), if_neg (by omega), ygR (aT_76 s) (aR_76_0 s), xB_s, ygR (aT_4 s) (aR_4_9 s), xB_s, yaIv (i := i) (aT_13 s) (aL_13 s) rfl (by omega) e9, xB_s, wr_id (x := (t : Int) * 7) (by omega) (by omega), wr_id (x := (t : Int) * 7 + K (169 + 2 * i)) (by omega) (by omega), yaIv (i := 7 * t + (K (169 + 2 * i)).toNat) (aT_77 s) (aL_77 s) (by omega) (by omega) ev, xB_s, ygR (aT_4 s) (aR_4_10 s), xB_s, yaIv (i := i) (aT_14 s) (aL_14 s) rfl (by omega) e10, wr_id (x := (i : Int) + 1) (by omega) (by omega), show (i : Int) + 1 = ((i + 1 : Nat) : Int) by omega]
      by_cases y : likeK K LV (t : Int) (K (169 + 2 * i)) = K (170 + 2 * i)
      · rw [if_pos (show soB K LV t (i + 1) = true by rw [es, z, decide_eq_true y]; rfl)] at i0
        rw [if_pos y, i0]
      · rw [if_neg (show ¬ soB K LV t (i + 1) = true by rw [es, z, decide_eq_false y]; decide)] at i0
        rw [if_neg y, i0]
    · rw [if_neg (show ¬ soB K LV t (i + 1) = true by rw [es]; intro w; exact z (Bool.and_eq_true_iff.mp w).1)] at i0
      rw [if_neg z, show f + (q + 1) + 1 = (f + q + 1) + 1 by omega, e_Pa_possible_18, xB_s, ygIv (aT_4 s) e11, if_pos (by omega), if_pos (by omega), if_pos rfl, wr_id (x := (i : Int) + 1) (by omega) (by omega), show (i : Int) + 1 = ((i + 1 : Nat) : Int) by omega, i0]
theorem l_poT (s : ShT h) {I : Nat → Nat → Int} (o : NowOk h I K LW) (en : K 183 = (n : Int)) {c : Nat} (ec : K 184 = (c : Int)) (hS : LkOk I n K LV) : ∀ (q t f : Nat), t + q = n → lp d 43 (f + 10 * q + 1) 4 [some (iR (some 76)), some (iR (some 4)), some (iI (mkB (fun t => soB K LV t c) t : Nat)), some (iI (t : Int)), none, none] [] (st h I J) = some (oI (mkB (fun t => soB K LV t c) n : Nat), st h I J) := by
  have hn := o.2.2.1.1
  have k8 := o.2.2.1.2.2.2.2.1.1
  have e4 : I 4 0 = (n : Int) := o.2.1.1.trans en
  intro q
  induction q with
  | zero =>
    intro t f ht
    rw [show f + 10 * 0 + 1 = f + 1 by omega, e_Pa_possible_4, xB_s, ygIv (aT_4 s) e4, if_neg (by omega), show t = n by omega]
  | succ q ih =>
    intro t f ht
    have h1 := l_soT (d := d) (J := J) s o en ec hS (t := t) (by omega) (mkB (fun t => soB K LV t c) t : Nat) c 0 (f + 10 * q + 1 + (8 - c)) (by omega)
    rw [show f + 10 * q + 1 + (8 - c) + c + 1 = f + 10 * (q + 1) by omega, if_pos (show soB K LV t 0 = true from rfl)] at h1
    have h1' : lp d 43 (f + 10 * (q + 1)) 18 [some (iR (some 76)), some (iR (some 4)), some (iI (mkB (fun t => soB K LV t c) t : Nat)), some (iI (t : Int)), some (iI 1), some (iI 0)] [] (st h I J) = _ := h1
    have i0 := ih (t + 1) (f + (8 - c)) (by omega)
    rw [show f + (8 - c) + 10 * q + 1 = f + 10 * q + 1 + (8 - c) by omega] at i0
    rw [e_Pa_possible_4, xB_s, ygIv (aT_4 s) e4, if_pos (by omega), h1']
    by_cases z : soB K LV t c = true
    · rw [if_pos z, mkB_y (f := fun t => soB K LV t c) (by omega) z]
      exact i0
    · rw [if_neg z, ← mkB_n (f := fun t => soB K LV t c) z]
      exact i0
theorem t_possible (s : ShT h) {I : Nat → Nat → Int} (o : NowOk h I K LW) (en : K 183 = (n : Int)) {c : Nat} (ec : K 184 = (c : Int)) (hS : LkOk I n K LV) : rn (d + 1) 43 [iR (some 76), iR (some 4)] (st h I J) = some (oI (mkB (fun t => soB K LV t c) n : Nat), st h I J) := by
  have hn := o.2.2.1.1
  have i0 := l_poT (d := d) (J := J) s o en ec hS n 0 (999998 - 10 * n) (by omega)
  rw [show 999998 - 10 * n + 10 * n + 1 = 999999 by omega] at i0
  have i0' : lp d 43 999999 4 [some (iR (some 76)), some (iR (some 4)), some (iI 0), some (iI 0), none, none] [] (st h I J) = _ := i0
  rw [r_Pa_possible, e_Pa_possible, i0']
theorem l_soM (m : ShM h 88) (k : KOk K) (hL : LwR K LV) (en : K 183 = (n : Int)) {c : Nat} (ec : K 184 = (c : Int)) {t : Nat} (ht : t < n) : ∀ (q i f : Nat) (I : Nat → Nat → Int), i + q = c → I 90 = K → ∃ I1, AsFr I1 I ∧ lp (d + 44) 272 (f + q + 1) 4 [some (iR (some 88)), some (iI (t : Int)), some (iI (if soB K LV t i = true then 1 else 0)), some (iI (i : Int))] [] (st h I J) = some (oI (if soB K LV t c = true then 1 else 0), st h I1 J) := by
  have hn := k.1
  have k8 := k.2.2.2.2.1
  intro q
  induction q with
  | zero =>
    intro i f I hi e90
    refine ⟨I, AsFr.rf I, ?_⟩
    rw [Nat.add_zero, e_M_isSo_4, ygR (bT_88 m) (bR_2 m), xB_s, yaIv (i := 184) (j := 184) (x := (c : Int)) (bT_90 m) (bL_90 m) rfl (by omega) (by rw [e90, ec]), if_neg (by omega), show i = c by omega]
    by_cases z : soB K LV t c = true
    · rw [if_pos z, xZ_1]
    · rw [if_neg z, xZ_0]
  | succ q ih =>
    intro i f I hi e90
    have es : soB K LV t (i + 1) = (soB K LV t i && decide (likeK K LV (t : Int) (K (169 + 2 * i)) = K (170 + 2 * i))) := rfl
    by_cases z : soB K LV t i = true
    · have hu := k8.2 i (by omega)
      obtain ⟨I1, a1, a2⟩ := m_like (d := d) (J := J) (I := I) (L := LV) m (by rw [e90]; exact k) (by rw [e90]; exact hL) (t := (t : Int)) (u := K (169 + 2 * i)) (by rw [e90]; omega) (by rw [e90]; omega)
      rw [e90] at a2
      have f90 : I1 90 = K := by rw [a1.1 90 (by omega) (by omega)]; exact e90
      obtain ⟨I2, b1, b2⟩ := ih (i + 1) f I1 (by omega) f90
      refine ⟨I2, b1.tr a1, ?_⟩
      rw [show f + (q + 1) + 1 = (f + q + 1) + 1 by omega, e_M_isSo_4, ygR (bT_88 m) (bR_2 m), xB_s, yaIv (i := 184) (j := 184) (x := (c : Int)) (bT_90 m) (bL_90 m) rfl (by omega) (by rw [e90, ec]), if_pos (by omega), if_pos z, if_neg (by omega), wr_id (x := 2 * (i : Int)) (by omega) (by omega), wr_id (x := 169 + 2 * (i : Int)) (by omega) (by omega), ygR (bT_88 m) (bR_2 m), xB_s, yaIv (i := 169 + 2 * i) (x := K (169 + 2 * i)) (bT_90 m) (bL_90 m) (by omega) (by omega) (by rw [e90]), yck (bT_88 m), a2, kI_o, wr_id (x := 169 + 2 * (i : Int) + 1) (by omega) (by omega), ygR (bT_88 m) (bR_2 m), xB_s, yaIv (i := 170 + 2 * i) (x := K (170 + 2 * i)) (bT_90 m) (bL_90 m) (by omega) (by omega) (by rw [f90]), wr_id (x := (i : Int) + 1) (by omega) (by omega), show (i : Int) + 1 = ((i + 1 : Nat) : Int) by omega]
      by_cases y : likeK K LV (t : Int) (K (169 + 2 * i)) = K (170 + 2 * i)
      · rw [if_pos (show soB K LV t (i + 1) = true by rw [es, z, decide_eq_true y]; rfl)] at b2
        rw [if_pos y, b2]
      · rw [if_neg (show ¬ soB K LV t (i + 1) = true by rw [es, z, decide_eq_false y]; decide)] at b2
        rw [if_neg y, b2]
    · obtain ⟨I2, b1, b2⟩ := ih (i + 1) f I (by omega) e90
      refine ⟨I2, b1, ?_⟩
      rw [if_neg (show ¬ soB K LV t (i + 1) = true by rw [es]; intro w; exact z (Bool.and_eq_true_iff.mp w).1)] at b2
      rw [show f + (q + 1) + 1 = (f + q + 1) + 1 by omega, e_M_isSo_4, ygR (bT_88 m) (bR_2 m), xB_s, yaIv (i := 184) (j := 184) (x := (c : Int)) (bT_90 m) (bL_90 m) rfl (by omega) (by rw [e90, ec]), if_pos (by omega), if_neg z, if_pos rfl, wr_id (x := (i : Int) + 1) (by omega) (by omega), show (i : Int) + 1 = ((i + 1 : Nat) : Int) by omega, b2]
theorem l_cbM (m : ShM h 88) (k : KOk K) (hL : LwR K LV) (en : K 183 = (n : Int)) {c : Nat} (ec : K 184 = (c : Int)) : ∀ (q t f : Nat) (I : Nat → Nat → Int), t + q = n → I 90 = K → ∃ I1, AsFr I1 I ∧ lp (d + 45) 273 (f + q + 1) 4 [some (iR (some 88)), some (iI (mkB (fun t => soB K LV t c) t : Nat)), some (iI (t : Int))] [] (st h I J) = some (oI (mkB (fun t => soB K LV t c) n : Nat), st h I1 J) := by
  have hn := k.1
  have k8 := k.2.2.2.2.1.1
  intro q
  induction q with
  | zero =>
    intro t f I ht e90
    refine ⟨I, AsFr.rf I, ?_⟩
    rw [Nat.add_zero, e_M_canBe_4, yck (bT_88 m), m_many m (x := (n : Int)) (by rw [e90, en]), kI_o, if_neg (by omega), show t = n by omega]
  | succ q ih =>
    intro t f I ht e90
    obtain ⟨I1, a1, a2⟩ := l_soM (d := d) (J := J) m k hL en ec (t := t) (by omega) c 0 (999998 - c) I (by omega) e90
    rw [show 999998 - c + c + 1 = 999999 by omega, if_pos (show soB K LV t 0 = true from rfl)] at a2
    have a2' : lp (d + 44) 272 999999 4 [some (iR (some 88)), some (iI (t : Int)), some (iI 1), some (iI 0)] [] (st h I J) = _ := a2
    obtain ⟨I2, b1, b2⟩ := ih (t + 1) f I1 (by omega) (by rw [a1.1 90 (by omega) (by omega)]; exact e90)
    refine ⟨I2, b1.tr a1, ?_⟩
    have a3 : rn (d + 45) 272 [iR (some 88), iI (t : Int)] (st h I J) = some (oI (if soB K LV t c = true then 1 else 0), st h I1 J) := by rw [r_M_isSo, e_M_isSo, a2']
    rw [show f + (q + 1) + 1 = (f + q + 1) + 1 by omega, e_M_canBe_4, yck (bT_88 m), m_many m (x := (n : Int)) (by rw [e90, en]), kI_o, if_pos (by omega), yck (bT_88 m), a3, kI_o, wr_id (x := (t : Int) + 1) (by omega) (by omega), show (t : Int) + 1 = ((t + 1 : Nat) : Int) by omega, ior0 (mkB_128 _ (by omega))]
    by_cases z : soB K LV t c = true
    · rw [if_pos z, if_neg (by omega), mkB_y (f := fun t => soB K LV t c) (by omega) z]
      exact b2
    · rw [if_neg z, if_pos rfl, ← mkB_n (f := fun t => soB K LV t c) z]
      exact b2
theorem m_canBe (m : ShM h 88) (k : KOk K) (hL : LwR K LV) (en : K 183 = (n : Int)) {c : Nat} (ec : K 184 = (c : Int)) (e90 : I 90 = K) : ∃ I1, AsFr I1 I ∧ rn (d + 46) 273 [iR (some 88)] (st h I J) = some (oI (mkB (fun t => soB K LV t c) n : Nat), st h I1 J) := by
  have hn := k.1
  obtain ⟨I1, a1, a2⟩ := l_cbM (d := d) (J := J) m k hL en ec n 0 (999998 - n) I (by omega) e90
  rw [show 999998 - n + n + 1 = 999999 by omega] at a2
  have a2' : lp (d + 45) 273 999999 4 [some (iR (some 88)), some (iI 0), some (iI 0)] [] (st h I J) = _ := a2
  exact ⟨I1, a1, by rw [r_M_canBe, e_M_canBe, a2']⟩
theorem C_canBe (v : Inv L xs k h I) (hk : k < 1000) : Cal L xs k h I J 130 273 [] := by
  obtain ⟨LW, o⟩ := v.now
  have s := v.t
  have m := v.m
  have kk := o.2.2.1
  have hn := kk.1
  have hL := lvOf_ok kk o.2.2.2.1
  have E : ∀ I1, TnQ I1 I → I1 90 = I 90 := fun I1 t => t 90 (by omega) (by omega) (by omega) (by omega)
  obtain ⟨n, en⟩ : ∃ n : Nat, I 90 183 = (n : Int) := ⟨(I 90 183).toNat, by omega⟩
  obtain ⟨c, ec⟩ : ∃ c : Nat, I 90 184 = (c : Int) := ⟨(I 90 184).toNat, by have := kk.2.2.2.2.1.1; omega⟩
  refine Cal.q v hk (mkB (fun t => soB (I 90) (lvOf (I 90) LW) t c) n : Nat) (fun d => ?_) fun d I1 J1 t => ?_
  · obtain ⟨I1, a1, a2, a3, a4⟩ := s_fillL (d := d + 94) (J := J) o en
    have b2 := t_possible (d := d + 98) (J := J) s (o.pp a1) en ec a4
    refine ⟨I1, J, a1.tq, ?_⟩
    rw [r_T_canBe, e_T_canBe, ygR (aT_3 s) (aR_3_11 s), ygR (aT_3 s) (aR_3_0 s), ygR (aT_3 s) (aR_3_6 s), xB_s, yck (aT_76 s), a3, kV_o, ygR (aT_3 s) (aR_3_11 s), ygR (aT_3 s) (aR_3_0 s), xB_s, yck (aT_76 s), b2, kI_o]
  · have e90 := E I1 t
    obtain ⟨I2, a1, a2⟩ := m_canBe (d := d + 54) (J := J1) m kk hL en ec e90
    exact ⟨I2, J1, a1.mq, a2⟩
end P98g
