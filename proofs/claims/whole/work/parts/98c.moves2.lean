/-! swap, round, close, pass, undo (by program, wip/whole/gen98c.py) -/
section P98c
variable {h : IH} {I I0 I1 I2 I' J : Nat → Nat → Int} {k L d n : Nat} {xs : Nat → Int32} {K K' : Nat → Int} {LW : Nat → Nat × (Nat → Cls)} {kind : Int}
theorem ShT_56 (s : ShT h) : ShMo h 56 := s.2.2.2.2.2.2.2.2.2.2.1
theorem swapV_c {L : LwV} {x y : Int} (hv : 0 ≤ swapV K L x y) : (0 ≤ x ∧ x < K 183) ∧ (0 ≤ y ∧ y < K 183) ∧ x ≠ y := by
  unfold swapV at hv
  by_cases c1 : x = y
  · rw [if_pos c1] at hv
    omega
  rw [if_neg c1] at hv
  by_cases c2 : (0 ≤ x ∧ x < K 183) ∧ (0 ≤ y ∧ y < K 183)
  · exact ⟨c2.1, c2.2, c1⟩
  · rw [if_neg c2] at hv
    omega
theorem closeV_c {x y : Int} (hv : 0 ≤ closeV K x y) : (0 ≤ x ∧ x < K 183) ∧ (0 ≤ y ∧ y < K 183) ∧ x ≠ y ∧ milesK K x y ≠ 0 := by
  unfold closeV at hv
  by_cases c1 : x = y
  · rw [if_pos c1] at hv
    omega
  rw [if_neg c1] at hv
  by_cases c2 : (0 ≤ x ∧ x < K 183) ∧ (0 ≤ y ∧ y < K 183)
  · rw [if_pos c2] at hv
    by_cases c3 : milesK K x y = 0
    · rw [if_pos c3] at hv
      omega
    · exact ⟨c2.1, c2.2, c1, c3⟩
  · rw [if_neg c2] at hv
    omega
theorem roundV_c {L : LwV} {x y z : Int} (hv : 0 ≤ roundV K L x y z) : ((0 ≤ x ∧ x < K 183) ∧ (0 ≤ y ∧ y < K 183) ∧ (0 ≤ z ∧ z < K 183)) ∧ x ≠ y ∧ y ≠ z ∧ x ≠ z := by
  unfold roundV at hv
  by_cases c1 : x = y ∨ y = z ∨ x = z
  · rw [if_pos c1] at hv
    omega
  rw [if_neg c1] at hv
  by_cases c2 : (0 ≤ x ∧ x < K 183) ∧ (0 ≤ y ∧ y < K 183) ∧ (0 ≤ z ∧ z < K 183)
  · exact ⟨c2, by omega, by omega, by omega⟩
  · rw [if_neg c2] at hv
    omega
/-- the class's moves, by the reference's words: v is the Mover -/
theorem t_swap {v : Nat} (o : NowOk h I K LW) (hv : ShMo h v) (hd : 15 < v ∧ v + 5 < 118) (x y : Int) : ∃ I1, (swapV K (lvOf K LW) x y < 0 → Fr I1 I (v + 1) (v + 5)) ∧ (0 ≤ swapV K (lvOf K LW) x y → (∀ b, (b < 4 ∨ 15 < b) → (b < v + 1 ∨ v + 5 < b) → I1 b = I b) ∧ RL h I1 4 (swapF K x y) LW) ∧ rn (d + 5) 21 [iR (some v), iR (some 4), iI x, iI y] (st h I J) = some (oI (swapV K (lvOf K LW) x y), st h I1 J) := by
  have kk := o.2.2.1
  obtain ⟨I1, a1, a2⟩ := s_trySwap (d := d) (J := J) hv (o.2.1.lj kk (ShT_4 o.1) (Mo_s1 hv) (by omega) (by omega)) (by omega) x y
  rw [o.2.1.swapR_ok kk o.2.2.2.1] at a1 a2
  refine ⟨I1, fun c => ?_, fun c => ?_, a2⟩
  · rw [if_pos c] at a1
    exact a1.wide (by omega)
  · rw [if_neg (by omega)] at a1
    obtain ⟨c1, c2, c3⟩ := swapV_c c
    obtain ⟨x, rfl⟩ : ∃ x' : Nat, x = (x' : Int) := ⟨x.toNat, by omega⟩
    obtain ⟨y, rfl⟩ : ∃ y' : Nat, y = (y' : Int) := ⟨y.toNat, by omega⟩
    refine ⟨fun b q1 q2 => ?_, ((o.2.1.swap kk (by omega) c1.2 c2.2 (fun z => c3 (by rw [z]))).fr4 o.2.2.2.2 fun b hb => a1 b (by omega))⟩
    rw [a1 b (by omega)]
    unfold swapI putI
    rw [up_na (by omega), up_na (by omega), up_na (by omega), up_na (by omega)]
theorem t_round {v : Nat} (o : NowOk h I K LW) (hv : ShMo h v) (hd : 15 < v ∧ v + 5 < 118) (x y z : Int) : ∃ I1, (roundV K (lvOf K LW) x y z < 0 → Fr I1 I (v + 1) (v + 5)) ∧ (0 ≤ roundV K (lvOf K LW) x y z → (∀ b, (b < 4 ∨ 15 < b) → (b < v + 1 ∨ v + 5 < b) → I1 b = I b) ∧ RL h I1 4 (roundF K x y z) LW) ∧ rn (d + 5) 22 [iR (some v), iR (some 4), iI x, iI y, iI z] (st h I J) = some (oI (roundV K (lvOf K LW) x y z), st h I1 J) := by
  have kk := o.2.2.1
  obtain ⟨I1, a1, a2⟩ := s_tryRound (d := d) (J := J) hv (o.2.1.lj kk (ShT_4 o.1) (Mo_s1 hv) (by omega) (by omega)) (by omega) x y z
  rw [o.2.1.roundR_ok kk o.2.2.2.1] at a1 a2
  refine ⟨I1, fun c => ?_, fun c => ?_, a2⟩
  · rw [if_pos c] at a1
    exact a1.wide (by omega)
  · rw [if_neg (by omega)] at a1
    obtain ⟨⟨c1, c2, c3⟩, d1, d2, d3⟩ := roundV_c c
    obtain ⟨x, rfl⟩ : ∃ x' : Nat, x = (x' : Int) := ⟨x.toNat, by omega⟩
    obtain ⟨y, rfl⟩ : ∃ y' : Nat, y = (y' : Int) := ⟨y.toNat, by omega⟩
    obtain ⟨z, rfl⟩ : ∃ z' : Nat, z = (z' : Int) := ⟨z.toNat, by omega⟩
    refine ⟨fun b q1 q2 => ?_, ((o.2.1.round kk (by omega) c1.2 c2.2 c3.2 (fun w => d1 (by rw [w])) (fun w => d2 (by rw [w])) (fun w => d3 (by rw [w]))).fr4 o.2.2.2.2 fun b hb => a1 b (by omega))⟩
    rw [a1 b (by omega)]
    unfold roundI putI
    rw [up_na (by omega), up_na (by omega), up_na (by omega), up_na (by omega), up_na (by omega), up_na (by omega)]
theorem t_close {v : Nat} (o : NowOk h I K LW) (x y : Int) : ∃ I1, (closeV K x y < 0 → I1 = I) ∧ (0 ≤ closeV K x y → (∀ b, (b < 4 ∨ 15 < b) → I1 b = I b) ∧ RL h I1 4 (closeF K x y) LW) ∧ rn (d + 2) 23 [iR (some v), iR (some 4), iI x, iI y] (st h I J) = some (oI (closeV K x y), st h I1 J) := by
  have kk := o.2.2.1
  have hn := kk.1
  have e0 := o.2.1.1
  have a2 := s_tryClose (d := d) (J := J) (v := v) (I := I) (ShT_4 o.1) (by rw [e0]; exact hn) x y
  rw [o.2.1.closeR_ok kk, e0] at a2
  refine ⟨_, fun c => ?_, fun c => ?_, a2⟩
  · by_cases q : x = y ∨ ¬ (0 ≤ x ∧ x < K 183) ∨ ¬ (0 ≤ y ∧ y < K 183) ∨ I (4 + 6) (x * 7 + y).toNat = 0
    · rw [if_pos q]
    · exfalso
      have q1 : ¬ x = y := fun z => q (Or.inl z)
      have q2 : 0 ≤ x ∧ x < K 183 := Classical.byContradiction fun z => q (Or.inr (Or.inl z))
      have q3 : 0 ≤ y ∧ y < K 183 := Classical.byContradiction fun z => q (Or.inr (Or.inr (Or.inl z)))
      have q4 : milesK K x y ≠ 0 := fun z => q (Or.inr (Or.inr (Or.inr (by
        rw [(o.2.1.2.2.1.2.1 (x * 7 + y).toNat (by omega)).2, show x * 7 + y = 7 * x + y by omega]
        exact z))))
      unfold closeV at c
      rw [if_neg q1, if_pos ⟨q2, q3⟩, if_neg q4] at c
      have := (kk.2.2.1.2.1 (7 * x + y).toNat (by omega)).2.1
      omega
  · obtain ⟨c1, c2, c3, c4⟩ := closeV_c c
    have q : ¬ (x = y ∨ ¬ (0 ≤ x ∧ x < K 183) ∨ ¬ (0 ≤ y ∧ y < K 183) ∨ I (4 + 6) (x * 7 + y).toNat = 0) := by
      rintro (z | z | z | z)
      · exact c3 z
      · exact z c1
      · exact z c2
      · rw [(o.2.1.2.2.1.2.1 (x * 7 + y).toNat (by omega)).2, show x * 7 + y = 7 * x + y by omega] at z
        exact c4 z
    rw [if_neg q]
    obtain ⟨x, rfl⟩ : ∃ x' : Nat, x = (x' : Int) := ⟨x.toNat, by omega⟩
    obtain ⟨y, rfl⟩ : ∃ y' : Nat, y = (y' : Int) := ⟨y.toNat, by omega⟩
    refine ⟨fun b q1 => ?_, o.2.1.close kk (by omega) (by omega) (by omega) (fun z => c3 (by rw [z]))⟩
    unfold landTurn
    rw [up_na (by omega), up_na (by omega)]
theorem t_pass {v : Nat} (o : NowOk h I K LW) (hv : ShMo h v) (hd : 15 < v ∧ v + 5 < 118) (e1 : I 1 = z0M) : ∃ I1, (passV K (lvOf K LW) < 0 → Fr I1 I (v + 1) (v + 5)) ∧ (0 ≤ passV K (lvOf K LW) → (∀ b, (b < 4 ∨ 15 < b) → (b < v + 1 ∨ v + 5 < b) → I1 b = I b) ∧ (RL h I1 4 (passK K (lvOf K LW) (K 183).toNat) LW ∧ K 112 < 999)) ∧ rn (d + 5) 24 [iR (some v), iR (some 4)] (st h I J) = some (oI (passV K (lvOf K LW)), st h I1 J) := by
  have kk := o.2.2.1
  have k1 := kk.1
  have k7 := kk.2.2.2.1.1
  have r := o.2.1
  have lj := r.lj kk (ShT_4 o.1) (Mo_s1 hv) (by omega) (by omega)
  have hw : LwOk h I (v + 1) (v + 5) (lawOf h I 4) := fun q hq => by
    refine ⟨(lj.2.2.2.1 q hq).1, ?_⟩
    rcases r.law kk with ⟨-, z2, -⟩ | ⟨q', z1, z2, -⟩
    · rw [z2] at hq
      cases hq
    · rw [z1] at hq
      cases hq
      omega
  have e8 : I (4 + 8) 0 = K 112 := r.2.2.2.1.1
  obtain ⟨I1, a1, a2⟩ := s_tryPass (d := d) (J := J) hv lj (by omega) hw (r.pm kk) r.2.2.2.2.2.2.2.1 r.2.2.2.2.2.2.2.2.1 (by rw [e8]; omega) (aT_1 o.1) (aL_1 o.1) (by rw [e1]; rfl)
  rw [r.passR_ok kk] at a2
  have hc : passV K (lvOf K LW) < 0 ↔ ¬ K 112 < 999 := by
    constructor
    · intro z q
      have := v3_ps (L := lvOf K LW) kk
      unfold passV at z this
      rw [if_neg (by omega)] at z this
      unfold RfV at this
      have hpos : ∀ t : Nat, (t : Int) ≤ K 183 → 0 ≤ likedK K (lvOf K LW) t := by
        intro t
        induction t with
        | zero => intro _; exact Int.le_refl _
        | succ t ih =>
          intro ht
          have h1 := ih (by omega)
          have h3 := kk.2.1.1 t (by omega)
          have h2 := likeK_in (L := lvOf K LW) kk (t := (t : Int)) (s := K t) (by omega)
          show 0 ≤ likedK K (lvOf K LW) t + likeK K (lvOf K LW) (t : Int) (K t)
          omega
      have := hpos (K 183).toNat (by omega)
      omega
    · intro q
      unfold passV
      rw [if_pos (by omega)]
      omega
  refine ⟨I1, fun c => ?_, fun c => ?_, a2⟩
  · have := hc.1 c
    unfold passW at a1
    rw [e8, if_neg this] at a1
    exact a1
  · have hy : K 112 < 999 := Classical.byContradiction fun z => by
      have := hc.2 z
      omega
    refine ⟨fun b q1 q2 => ?_, (r.pass kk (by omega) (n := (K 183).toNat) (by omega) hy).fr4 o.2.2.2.2 fun b hb => a1 b (by omega), hy⟩
    rw [a1 b (by omega)]
    unfold passW
    rw [e8, if_pos hy, up_na (by omega), passI_na (by omega) (by omega)]
theorem C_swap (v : Inv L xs k h I) (hk : k < 1000) (x y : Int) : Cal L xs k h I J 114 240 [iI x, iI y] := by
  obtain ⟨LW, o⟩ := v.now
  have s := v.t
  have m := v.m
  have kk := o.2.2.1
  have hn := kk.1
  have hL := lvOf_ok kk o.2.2.2.1
  obtain ⟨kp, nx, b1, b2, b3, b4, b5, b6⟩ := v.p
  refine Cal.move (kind := 0) (K' := swapF (I 90) x y) v hk o (v3_sw (L := lvOf (I 90) LW) (x := x) (y := y) kk) (by omega) (fun c => ?_) (fun c => ?_) (fun c => ?_) (fun d => ?_) (fun d I1 J e90 e31 => ?_)
  · obtain ⟨c1, c2, c3⟩ := swapV_c c
    obtain ⟨x, rfl⟩ : ∃ x' : Nat, x = (x' : Int) := ⟨x.toNat, by omega⟩
    obtain ⟨y, rfl⟩ : ∃ y' : Nat, y = (y' : Int) := ⟨y.toNat, by omega⟩
    exact swapF_ok kk c1.2 c2.2
  · obtain ⟨c1, c2, c3⟩ := swapV_c c
    exact o.2.2.2.1.cg kk fun i i1 i2 => by unfold swapF; rw [upF_n (by omega), upF_n (by omega)]
  · obtain ⟨c1, c2, c3⟩ := swapV_c c
    unfold swapF
    rw [upF_n (by omega), upF_n (by omega)]
  · obtain ⟨I1, a1, a2, a3⟩ := t_swap (d := d + 94) (J := J) (o.pp2 (kind := 0)) (ShT_56 s) (by omega) x y
    exact ⟨I1, a1, a2, by rw [r_T_swap, e_T_swap, ygR (aT_3 s) (aR_3_9 s), ygR (aT_3 s) (aR_3_0 s), xB_s, yck (aT_72 s), t_prep (d := d + 98) v, kV_o, ygR (aT_3 s) (aR_3_7 s), ygR (aT_3 s) (aR_3_0 s), xB_s, yck (aT_56 s), a3, kI_o]⟩
  · obtain ⟨I2, a1, a2, a3⟩ := m_swapK (d := d + 52) (J := J) (I := I1) (L := lvOf (I 90) LW) m (by rw [e90]; exact kk) (by rw [e90]; exact hL) (u := kp) (by rw [e31, b5]) b1 x y
    rw [e90] at a1 a2 a3
    exact ⟨I2, a2, fun c => (a3 c).2.2.2, by rw [r_M_swap, e_M_swap, yck (bT_88 m), a1, kI_o, yck (bT_88 m)]⟩
theorem C_round (v : Inv L xs k h I) (hk : k < 1000) (x y z : Int) : Cal L xs k h I J 115 241 [iI x, iI y, iI z] := by
  obtain ⟨LW, o⟩ := v.now
  have s := v.t
  have m := v.m
  have kk := o.2.2.1
  have hn := kk.1
  have hL := lvOf_ok kk o.2.2.2.1
  obtain ⟨kp, nx, b1, b2, b3, b4, b5, b6⟩ := v.p
  refine Cal.move (kind := 1) (K' := roundF (I 90) x y z) v hk o (v3_rd (L := lvOf (I 90) LW) (x := x) (y := y) (z := z) kk) (by omega) (fun c => ?_) (fun c => ?_) (fun c => ?_) (fun d => ?_) (fun d I1 J e90 e31 => ?_)
  · obtain ⟨⟨c1, c2, c3⟩, d1, d2, d3⟩ := roundV_c c
    obtain ⟨x, rfl⟩ : ∃ x' : Nat, x = (x' : Int) := ⟨x.toNat, by omega⟩
    obtain ⟨y, rfl⟩ : ∃ y' : Nat, y = (y' : Int) := ⟨y.toNat, by omega⟩
    obtain ⟨z, rfl⟩ : ∃ z' : Nat, z = (z' : Int) := ⟨z.toNat, by omega⟩
    exact roundF_ok kk c1.2 c2.2 c3.2 (fun w => d1 (by rw [w])) (fun w => d2 (by rw [w])) (fun w => d3 (by rw [w]))
  · obtain ⟨⟨c1, c2, c3⟩, -⟩ := roundV_c c
    exact o.2.2.2.1.cg kk fun i i1 i2 => by unfold roundF; rw [upF_n (by omega), upF_n (by omega), upF_n (by omega)]
  · obtain ⟨⟨c1, c2, c3⟩, -⟩ := roundV_c c
    unfold roundF
    rw [upF_n (by omega), upF_n (by omega), upF_n (by omega)]
  · obtain ⟨I1, a1, a2, a3⟩ := t_round (d := d + 94) (J := J) (o.pp2 (kind := 1)) (ShT_56 s) (by omega) x y z
    exact ⟨I1, a1, a2, by rw [r_T_round, e_T_round, ygR (aT_3 s) (aR_3_9 s), ygR (aT_3 s) (aR_3_0 s), xB_s, yck (aT_72 s), t_prep (d := d + 98) v, kV_o, ygR (aT_3 s) (aR_3_7 s), ygR (aT_3 s) (aR_3_0 s), xB_s, yck (aT_56 s), a3, kI_o]⟩
  · obtain ⟨I2, a1, a2, a3⟩ := m_roundK (d := d + 52) (J := J) (I := I1) (L := lvOf (I 90) LW) m (by rw [e90]; exact kk) (by rw [e90]; exact hL) (u := kp) (by rw [e31, b5]) b1 x y z
    rw [e90] at a1 a2 a3
    exact ⟨I2, a2, fun c => (a3 c).2.2, by rw [r_M_round, e_M_round, yck (bT_88 m), a1, kI_o, yck (bT_88 m)]⟩
theorem closeF_hi {x y : Int} (h1 : 0 ≤ x ∧ x < 7) (h2 : 0 ≤ y ∧ y < 7) {i : Nat} (hi : i < 63 ∨ 112 ≤ i) : closeF K x y i = K i := by
  unfold closeF
  rw [upF_n (by omega), upF_n (by omega)]
theorem C_close (v : Inv L xs k h I) (hk : k < 1000) (x y : Int) : Cal L xs k h I J 116 242 [iI x, iI y] := by
  obtain ⟨LW, o⟩ := v.now
  have s := v.t
  have m := v.m
  have kk := o.2.2.1
  have hn := kk.1
  have hL := lvOf_ok kk o.2.2.2.1
  obtain ⟨kp, nx, b1, b2, b3, b4, b5, b6⟩ := v.p
  refine Cal.move (kind := 2) (K' := closeF (I 90) x y) v hk o (v3_cl (x := x) (y := y) kk) (by omega) (fun c => ?_) (fun c => ?_) (fun c => ?_) (fun d => ?_) (fun d I1 J e90 e31 => ?_)
  · obtain ⟨c1, c2, c3, -⟩ := closeV_c c
    obtain ⟨x, rfl⟩ : ∃ x' : Nat, x = (x' : Int) := ⟨x.toNat, by omega⟩
    obtain ⟨y, rfl⟩ : ∃ y' : Nat, y = (y' : Int) := ⟨y.toNat, by omega⟩
    exact closeF_ok kk (by omega) (by omega) (fun w => c3 (by rw [w]))
  · obtain ⟨c1, c2, -⟩ := closeV_c c
    exact o.2.2.2.1.cg kk fun i i1 i2 => closeF_hi (by omega) (by omega) (by omega)
  · obtain ⟨c1, c2, -⟩ := closeV_c c
    exact closeF_hi (by omega) (by omega) (by omega)
  · obtain ⟨I1, a1, a2, a3⟩ := t_close (d := d + 97) (J := J) (v := 56) (o.pp2 (kind := 2)) x y
    exact ⟨I1, fun c b hb => by rw [a1 c], fun c => ⟨fun b q1 q2 => (a2 c).1 b q1, (a2 c).2⟩, by rw [r_T_close, e_T_close, ygR (aT_3 s) (aR_3_9 s), ygR (aT_3 s) (aR_3_0 s), xB_s, yck (aT_72 s), t_prep (d := d + 98) v, kV_o, ygR (aT_3 s) (aR_3_7 s), ygR (aT_3 s) (aR_3_0 s), xB_s, yck (aT_56 s), a3, kI_o]⟩
  · obtain ⟨I2, a1, a2, a3⟩ := m_closeK (d := d + 52) (J := J) (I := I1) m (by rw [e90]; exact kk) (u := kp) (by rw [e31, b5]) b1 x y
    rw [e90] at a1 a2 a3
    exact ⟨I2, a2, fun c => (a3 c).2.2.2, by rw [r_M_close, e_M_close, yck (bT_88 m), a1, kI_o, yck (bT_88 m)]⟩
theorem C_pass (v : Inv L xs k h I) (hk : k < 1000) : Cal L xs k h I J 117 243 [] := by
  obtain ⟨LW, o⟩ := v.now
  have s := v.t
  have m := v.m
  have kk := o.2.2.1
  have hn := kk.1
  have hL := lvOf_ok kk o.2.2.2.1
  obtain ⟨kp, nx, b1, b2, b3, b4, b5, b6⟩ := v.p
  have hpc : 0 ≤ passV (I 90) (lvOf (I 90) LW) → I 90 112 < 999 := fun c => by
    obtain ⟨I1, a1, a2, a3⟩ := t_pass (d := 0) (J := J) o (ShT_56 s) (by omega) v.z0
    exact (a2 c).2.2
  refine Cal.move (kind := 3) (K' := passK (I 90) (lvOf (I 90) LW) (I 90 183).toNat) v hk o (v3_ps (L := lvOf (I 90) LW) kk) (by omega) (fun c => ?_) (fun c => ?_) (fun c => ?_) (fun d => ?_) (fun d I1 J e90 e31 => ?_)
  · exact passK_ok kk (by omega) (hpc c)
  · exact o.2.2.2.1.cg kk fun i i1 i2 => passK_at i (by omega) (by omega) (by omega)
  · exact passK_at 183 (by omega) (by omega) (by omega)
  · obtain ⟨I1, a1, a2, a3⟩ := t_pass (d := d + 94) (J := J) (o.pp2 (kind := 3)) (ShT_56 s) (by omega) (by rw [ppI_o (by omega)]; exact v.z0)
    exact ⟨I1, a1, fun c => ⟨(a2 c).1, (a2 c).2.1⟩, by rw [r_T_pass, e_T_pass, ygR (aT_3 s) (aR_3_9 s), ygR (aT_3 s) (aR_3_0 s), xB_s, yck (aT_72 s), t_prep (d := d + 98) v, kV_o, ygR (aT_3 s) (aR_3_7 s), ygR (aT_3 s) (aR_3_0 s), xB_s, yck (aT_56 s), a3, kI_o]⟩
  · obtain ⟨I2, a1, a2, a3⟩ := m_passK (d := d + 53) (J := J) (I := I1) (L := lvOf (I 90) LW) m (by rw [e90]; exact kk) (by rw [e90]; exact hL) (u := kp) (by rw [e31, b5]) b1
    rw [e90] at a1 a2 a3
    exact ⟨I2, fun c => by rw [a2 c]; exact AsFr.rf _, fun c => (a3 c).2, by rw [r_M_pass, e_M_pass, yck (bT_88 m), a1, kI_o, yck (bT_88 m)]⟩
end P98c
