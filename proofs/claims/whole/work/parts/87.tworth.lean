/-! What each town could have, what it is worth: the class (by program, wip/whole/gen87.py) -/
/-- the bits of those of the first k of which f is so -/
def mkB (f : Nat → Bool) : Nat → Nat
  | 0 => 0
  | k + 1 => if f k = true then mkB f k ||| 2 ^ k else mkB f k
theorem mkB_bit (f : Nat → Bool) : ∀ (k j : Nat), (mkB f k).testBit j = (decide (j < k) && f j)
  | 0, j => by
    show (0 : Nat).testBit j = _
    rw [Nat.zero_testBit]
    simp
  | k + 1, j => by
    show (if f k = true then mkB f k ||| 2 ^ k else mkB f k).testBit j = _
    have ih := mkB_bit f k j
    by_cases c : f k = true
    · rw [if_pos c, Nat.testBit_or, ih, Nat.testBit_two_pow]
      by_cases z : k = j
      · subst z
        simp [c]
      · by_cases y : j < k
        · simp [y, show j < k + 1 by omega]
          omega
        · simp [y, show ¬ j < k + 1 by omega, z]
    · rw [if_neg c, ih]
      by_cases z : k = j
      · subst z
        simp [c]
      · by_cases y : j < k
        · simp [y, show j < k + 1 by omega]
        · simp [y, show ¬ j < k + 1 by omega]
theorem mkB_lt (f : Nat → Bool) : ∀ {k : Nat}, k ≤ 7 → mkB f k < 2 ^ k
  | 0, _ => Nat.one_pos
  | k + 1, hk => by
    have ih := mkB_lt f (k := k) (by omega)
    have e : 2 ^ (k + 1) = 2 * 2 ^ k := by rw [Nat.pow_succ, Nat.mul_comm]
    show (if f k = true then mkB f k ||| 2 ^ k else mkB f k) < 2 ^ (k + 1)
    split
    · exact (maskN (n := k + 1) hk (u := mkB f k) (by omega)).2.2 k (by omega)
    · omega
theorem shr_ok : ((List.range 128).all fun u => (List.range 7).all fun s => decide (iand (ishr (u : Int) (s : Int)) 1 = if u.testBit s = true then 1 else 0)) = true := by decide +kernel
theorem shrI {u s : Nat} (hu : u < 128) (hs : s < 7) : iand (ishr (u : Int) (s : Int)) 1 = if u.testBit s = true then 1 else 0 :=
  of_decide_eq_true (List.all_eq_true.mp (List.all_eq_true.mp shr_ok u (List.mem_range.mpr hu)) s (List.mem_range.mpr hs))
/-- what the Paper's work leaves as it is -/
def PpFr (I' I : Nat → Nat → Int) : Prop := ∀ b, (b < 52 ∨ 55 < b) → (b < 77 ∨ 82 < b) → I' b = I b
theorem PpFr.rf (I : Nat → Nat → Int) : PpFr I I := fun _ _ _ => rfl
theorem PpFr.tr {A B C : Nat → Nat → Int} (h1 : PpFr A B) (h2 : PpFr B C) : PpFr A C := fun b q1 q2 => (h1 b q1 q2).trans (h2 b q1 q2)
theorem Fr.pp {A B : Nat → Nat → Int} (h : Fr A B 52 55) : PpFr A B := fun b q1 _ => h b q1
theorem PpFr.up (I : Nat → Nat → Int) {b : Nat} (i : Nat) (x : Int) (hb : 77 ≤ b ∧ b ≤ 82) : PpFr (up I b i x) I := fun c _ q2 => up_na (by omega)
section P87
variable {d n : Nat} {h : IH} {J : Nat → Nat → Int} {K : Nat → Int} {LW : Nat → Nat × (Nat → Cls)}
theorem RL.pp {I I' : Nat → Nat → Int} (r : RL h I 4 K LW) (f : PpFr I' I) (ht : ∀ j x, hR h (4 + 11) j = some x → 118 ≤ x) : RL h I' 4 K LW :=
  r.tr (fun b b1 b2 => f b (by omega) (by omega)) rfl fun j x e b b1 b2 => by
    have := ht j x e
    exact ⟨rfl, rfl, rfl, f b (by omega) (by omega)⟩
theorem lawOf_pp {I I' : Nat → Nat → Int} (f : PpFr I' I) : lawOf h I' 4 = lawOf h I 4 := by
  unfold lawOf
  rw [f 4 (by omega) (by omega)]
/-- what the class's LAND now tells to its Judge -/
def NowOk (h : IH) (I : Nat → Nat → Int) (K : Nat → Int) (LW : Nat → Nat × (Nat → Cls)) : Prop := ShT h ∧ RL h I 4 K LW ∧ KOk K ∧ LwA K LW ∧ ∀ j x, hR h (4 + 11) j = some x → 118 ≤ x
theorem NowOk.pp {I I' : Nat → Nat → Int} (o : NowOk h I K LW) (f : PpFr I' I) : NowOk h I' K LW := ⟨o.1, o.2.1.pp f o.2.2.2.2, o.2.2⟩
theorem ShT_4 (s : ShT h) : ShLand h 4 := s.2.2.2.1
theorem ShT_52 (s : ShT h) : ShJu h 52 := s.2.2.2.2.2.2.2.2.2.1
theorem NowOk.lj {I : Nat → Nat → Int} (o : NowOk h I K LW) : LJ h I 4 52 := o.2.1.lj o.2.2.1 (ShT_4 o.1) (ShT_52 o.1) (by omega) (by omega)
theorem t_like {I : Nat → Nat → Int} (o : NowOk h I K LW) {t u : Int} (ht : 0 ≤ t ∧ t < 7) (hu : 0 ≤ u ∧ u < K 183) : ∃ I', PpFr I' I ∧ (∀ b, 76 ≤ b → I' b = I b) ∧ rn (d + 4) 1 [iR (some 52), iR (some 4), iR (lawOf h I 4), iI t, iI u] (st h I J) = some (oI (likeK K (lvOf K LW) t u), st h I' J) := by
  have h7 := o.2.2.1.1
  obtain ⟨I', a1, a2⟩ := l_like (d := d) (J := J) o.lj (t := t) (s := u) ht (by omega)
  rw [o.2.1.like o.2.2.1 ht hu] at a2
  exact ⟨I', a1.pp, fun b hb => a1 b (by omega), a2⟩
theorem t_have {I : Nat → Nat → Int} (o : NowOk h I K LW) {t u : Int} (ht : 0 ≤ t ∧ t < 7) (hu : 0 ≤ u ∧ u < K 183) : ∃ I', PpFr I' I ∧ (∀ b, 76 ≤ b → I' b = I b) ∧ rn (d + 5) 4 [iR (some 52), iR (some 4), iI t, iI u] (st h I J) = some (oI (haveK K (lvOf K LW) t u), st h I' J) := by
  have h7 := o.2.2.1.1
  obtain ⟨I', a1, a2⟩ := l_have (d := d) (J := J) o.lj (t := t) (s := u) ht (by omega)
  rw [o.2.1.have_ o.2.2.1 o.2.2.2.1 ht hu] at a2
  exact ⟨I', a1.pp, fun b hb => a1 b (by omega), a2⟩
theorem tl_now {I : Nat → Nat → Int} (o : NowOk h I K LW) (en : K 183 = (n : Int)) : I 4 0 = (n : Int) := o.2.1.1.trans en
theorem t_law {I : Nat → Nat → Int} (o : NowOk h I K LW) : rn (d + 2) 12 [iR (some 4)] (st h I J) = some (oR (lawOf h I 4), st h I J) := by
  have h6 := o.2.2.1.2.2.2.2.2.1
  exact s_lawInForce (d := d) (J := J) (ShT_4 o.1) (by rw [o.2.1.2.2.2.2.2.1.1]; omega)
def FlOk (I : Nat → Nat → Int) (n : Nat) (K : Nat → Int) (L : LwV) (t s : Nat) : Prop := ∀ t' s', t' < n → s' < n → (t' < t ∨ (t' = t ∧ s' < s)) → I 77 (7 * t' + s') = likeK K L (t' : Int) (s' : Int)
theorem l_fl20 {I0 : Nat → Nat → Int} (o : NowOk h I0 K LW) (en : K 183 = (n : Int)) {t : Nat} (ht : t < n) : ∀ (m u f : Nat) (I : Nat → Nat → Int), u + m = n → PpFr I I0 → (∀ b, 78 ≤ b → I b = I0 b) → FlOk I n K (lvOf K LW) t u → ∃ I', PpFr I' I0 ∧ (∀ b, 78 ≤ b → I' b = I0 b) ∧ lp (d + 4) 28 (f + m + 1) 20 [some (iR (some 76)), some (iR (some 4)), some (iR (some 52)), some (iR (lawOf h I0 4)), some (iI (t : Int)), some (iI (u : Int))] [] (st h I J) = lp (d + 4) 28 f 8 [some (iR (some 76)), some (iR (some 4)), some (iR (some 52)), some (iR (lawOf h I0 4)), some (iI ((t + 1 : Nat) : Int)), none] [] (st h I' J) ∧ FlOk I' n K (lvOf K LW) (t + 1) 0 := by
  have h7 := o.2.2.1.1
  have s := o.1
  intro m
  induction m with
  | zero =>
    intro u f I hk hf hf2 hw
    have o1 := o.pp hf
    refine ⟨I, hf, hf2, ?_, fun t' s' h1 h2 h3 => hw t' s' h1 h2 (by omega)⟩
    rw [Nat.add_zero, e_Pa_fillLikings_20, xB_s, ygI (aT_4 s), tl_now o1 en, if_neg (by omega), wr_id (by omega) (by omega)]
    rfl
  | succ m ih =>
    intro u f I hk hf hf2 hw
    have hu : u < n := by omega
    have o1 := o.pp hf
    obtain ⟨I1, a1, a3, a2⟩ := t_like (d := d) (J := J) o1 (t := (t : Int)) (u := (u : Int)) (by omega) (by omega)
    rw [lawOf_pp hf] at a2
    have fr : PpFr (up I1 77 (7 * t + u) (likeK K (lvOf K LW) (t : Int) (u : Int))) I0 := (PpFr.up _ _ _ (by omega)).tr (a1.tr hf)
    obtain ⟨I2, b1, b3, b2, b4⟩ := ih (u + 1) f (up I1 77 (7 * t + u) (likeK K (lvOf K LW) (t : Int) (u : Int))) (by omega) fr (fun b hb => by rw [up_na (by omega), a3 b (by omega)]; exact hf2 b hb) (fun t' s' h1 h2 h3 => by
      by_cases c : 7 * t' + s' = 7 * t + u
      · have : t' = t ∧ s' = u := by omega
        obtain ⟨rfl, rfl⟩ := this
        rw [up_eq]
      · rw [up_ni c, a3 77 (by omega)]
        exact hw t' s' h1 h2 (by omega))
    refine ⟨I2, b1, b3, ?_, b4⟩
    rw [show f + (m + 1) + 1 = (f + m + 1) + 1 by omega, e_Pa_fillLikings_20, xB_s, ygI (aT_4 s), tl_now o1 en, if_pos (by omega), ygR (aT_76 s) (aR_76_0 s), xB_s, yck (aT_52 s), a2, kI_o, xB_s, zSI (i := 7 * t + u) (aT_77 s) (by omega) (aL_77 s) (by rw [wr_id (x := (t : Int) * 7) (by omega) (by omega), wr_id (by omega) (by omega)]; omega) (by omega), wr_id (by omega) (by omega)]
    exact b2
theorem l_fl8 {I0 : Nat → Nat → Int} (o : NowOk h I0 K LW) (en : K 183 = (n : Int)) : ∀ (m t f : Nat) (I : Nat → Nat → Int), t + m = n → PpFr I I0 → (∀ b, 78 ≤ b → I b = I0 b) → FlOk I n K (lvOf K LW) t 0 → ∃ I', PpFr I' I0 ∧ (∀ b, 78 ≤ b → I' b = I0 b) ∧ lp (d + 4) 28 (f + 10 * m + 1) 8 [some (iR (some 76)), some (iR (some 4)), some (iR (some 52)), some (iR (lawOf h I0 4)), some (iI (t : Int)), none] [] (st h I J) = some (o0, st h I' J) ∧ FlOk I' n K (lvOf K LW) n 0 := by
  have h7 := o.2.2.1.1
  have s := o.1
  intro m
  induction m with
  | zero =>
    intro t f I hk hf hf2 hw
    have o1 := o.pp hf
    refine ⟨I, hf, hf2, ?_, by rw [show t = n by omega] at hw; exact hw⟩
    rw [show f + 10 * 0 + 1 = f + 1 by omega, e_Pa_fillLikings_8, xB_s, ygI (aT_4 s), tl_now o1 en, if_neg (by omega)]
  | succ m ih =>
    intro t f I hk hf hf2 hw
    have o1 := o.pp hf
    obtain ⟨I1, a1, a4, a2, a3⟩ := l_fl20 (d := d) (J := J) o en (t := t) (by omega) n 0 (f + 10 * m + 1 + (8 - n)) I (by omega) hf hf2 hw
    obtain ⟨I2, b1, b4, b2, b3⟩ := ih (t + 1) (f + (8 - n)) I1 (by omega) a1 a4 a3
    refine ⟨I2, b1, b4, ?_, b3⟩
    have a2' : lp (d + 4) 28 (f + 10 * m + 1 + (8 - n) + n + 1) 20 [some (iR (some 76)), some (iR (some 4)), some (iR (some 52)), some (iR (lawOf h I0 4)), some (iI (t : Int)), some (iI 0)] [] (st h I J) = _ := a2
    rw [show f + 10 * (m + 1) + 1 = (f + 10 * m + 1 + (8 - n) + n + 1) + 1 by omega, e_Pa_fillLikings_8, xB_s, ygI (aT_4 s), tl_now o1 en, if_pos (by omega), a2', show f + 10 * m + 1 + (8 - n) = f + (8 - n) + 10 * m + 1 by omega]
    exact b2
def LkOk (I : Nat → Nat → Int) (n : Nat) (K : Nat → Int) (L : LwV) : Prop := ∀ t s, t < n → s < n → I 77 (7 * t + s) = likeK K L (t : Int) (s : Int)
theorem s_fillL {I : Nat → Nat → Int} (o : NowOk h I K LW) (en : K 183 = (n : Int)) : ∃ I', PpFr I' I ∧ (∀ b, 78 ≤ b → I' b = I b) ∧ rn (d + 5) 28 [iR (some 76), iR (some 4), iR (some 52)] (st h I J) = some (o0, st h I' J) ∧ LkOk I' n K (lvOf K LW) := by
  have h7 := o.2.2.1.1
  obtain ⟨I', a1, a4, a2, a3⟩ := l_fl8 (d := d) (J := J) o en n 0 (999998 - 10 * n) I (by omega) (PpFr.rf I) (fun _ _ => rfl) (fun t' s' _ _ h3 => by omega)
  rw [show 999998 - 10 * n + 10 * n + 1 = 999999 by omega] at a2
  refine ⟨I', a1, a4, ?_, fun t u ht hu => a3 t u ht hu (Or.inl ht)⟩
  rw [r_Pa_fillLikings, e_Pa_fillLikings, xB_s, yck (aT_4 o.1), t_law (d := d + 2) o, kR_o]
  exact a2
/-- by town the bits of what it could have -/
noncomputable def mayN (K : Nat → Int) (L : LwV) (t k : Nat) : Nat := mkB (fun s => decide (haveK K L (t : Int) (s : Int) = 1)) k
def MyOk (I : Nat → Nat → Int) (n : Nat) (K : Nat → Int) (L : LwV) (t : Nat) : Prop := ∀ t', t' < t → I 78 t' = ((mayN K L t' n : Nat) : Int)
theorem mayN_lt (K : Nat → Int) (L : LwV) (t : Nat) {k : Nat} (hk : k ≤ 7) : mayN K L t k < 128 := by
  have := mkB_lt (fun s => decide (haveK K L (t : Int) (s : Int) = 1)) hk
  have := pow_7 hk
  unfold mayN
  omega
theorem l_my20 {I0 : Nat → Nat → Int} (o : NowOk h I0 K LW) (en : K 183 = (n : Int)) {t : Nat} (ht : t < n) : ∀ (m u f : Nat) (I : Nat → Nat → Int), u + m = n → PpFr I I0 → (∀ b, b = 77 ∨ 79 ≤ b → I b = I0 b) → MyOk I n K (lvOf K LW) t → I 78 t = ((mayN K (lvOf K LW) t u : Nat) : Int) → ∃ I', PpFr I' I0 ∧ (∀ b, b = 77 ∨ 79 ≤ b → I' b = I0 b) ∧ lp (d + 5) 29 (f + m + 1) 20 [some (iR (some 76)), some (iR (some 4)), some (iR (some 52)), some (iI (t : Int)), some (iI (u : Int))] [] (st h I J) = lp (d + 5) 29 f 2 [some (iR (some 76)), some (iR (some 4)), some (iR (some 52)), some (iI ((t + 1 : Nat) : Int)), none] [] (st h I' J) ∧ MyOk I' n K (lvOf K LW) (t + 1) := by
  have h7 := o.2.2.1.1
  have s := o.1
  intro m
  induction m with
  | zero =>
    intro u f I hk hf hf2 hw hu0
    have o1 := o.pp hf
    refine ⟨I, hf, hf2, ?_, fun t' h1 => ?_⟩
    · rw [Nat.add_zero, e_Pa_fillMay_20, xB_s, ygI (aT_4 s), tl_now o1 en, if_neg (by omega), wr_id (by omega) (by omega)]
      rfl
    · by_cases c : t' = t
      · rw [c, hu0, show u = n by omega]
      · exact hw t' (by omega)
  | succ m ih =>
    intro u f I hk hf hf2 hw hu0
    have hu : u < n := by omega
    have o1 := o.pp hf
    obtain ⟨I1, a1, a3, a2⟩ := t_have (d := d) (J := J) o1 (t := (t : Int)) (u := (u : Int)) (by omega) (by omega)
    have wu : wr ((u : Int) + 1) = ((u + 1 : Nat) : Int) := by rw [wr_id (by omega) (by omega)]; rfl
    have em : mayN K (lvOf K LW) t (u + 1) = if haveK K (lvOf K LW) (t : Int) (u : Int) = 1 then mayN K (lvOf K LW) t u ||| 2 ^ u else mayN K (lvOf K LW) t u := by
      show (if decide (haveK K (lvOf K LW) (t : Int) (u : Int) = 1) = true then _ else _) = _
      by_cases c : haveK K (lvOf K LW) (t : Int) (u : Int) = 1
      · rw [if_pos (decide_eq_true c), if_pos c]
        rfl
      · rw [if_neg (by simp [c]), if_neg c]
        rfl
    have hd : lp (d + 5) 29 (f + (m + 1) + 1) 20 [some (iR (some 76)), some (iR (some 4)), some (iR (some 52)), some (iI (t : Int)), some (iI (u : Int))] [] (st h I J) = lp (d + 5) 29 (f + m + 1) 20 [some (iR (some 76)), some (iR (some 4)), some (iR (some 52)), some (iI (t : Int)), some (iI ((u + 1 : Nat) : Int))] [] (st h (if haveK K (lvOf K LW) (t : Int) (u : Int) = 1 then up I1 78 t ((mayN K (lvOf K LW) t u ||| 2 ^ u : Nat) : Int) else I1) J) := by
      rw [show f + (m + 1) + 1 = (f + m + 1) + 1 by omega, e_Pa_fillMay_20, xB_s, ygI (aT_4 s), tl_now o1 en, if_pos (by omega), xB_s, yck (aT_52 s), a2, kI_o, wu]
      rcases haveK_01 (K := K) (L := lvOf K LW) (t : Int) (u : Int) with c | c
      · rw [if_pos c, if_neg (by rw [c]; decide)]
      · rw [if_neg (by rw [c]; decide), if_pos c, ygR (aT_76 s) (aR_76_1 s), xB_s, yaN (aT_78 s) (aL_78 s) (by omega), a3 78 (by omega), hu0, (bitI (u := mayN K (lvOf K LW) t u) (s := u) (mayN_lt _ _ _ (by omega)) (by omega)).1, xB_s, ysN (aT_78 s) (by omega) (aL_78 s) (by omega)]
    rw [hd]
    refine ih (u + 1) f _ (by omega) ?_ (fun b hb => ?_) (fun t' h1 => ?_) ?_
    · split
      · exact (PpFr.up _ _ _ (by omega)).tr (a1.tr hf)
      · exact a1.tr hf
    · split
      · rw [up_na (by omega), a3 b (by omega)]
        exact hf2 b hb
      · rw [a3 b (by omega)]
        exact hf2 b hb
    · split
      · rw [up_ni (by omega), a3 78 (by omega)]
        exact hw t' h1
      · rw [a3 78 (by omega)]
        exact hw t' h1
    · rw [em]
      split
      · rw [up_eq]
      · rw [a3 78 (by omega)]
        exact hu0
theorem l_my2 {I0 : Nat → Nat → Int} (o : NowOk h I0 K LW) (en : K 183 = (n : Int)) : ∀ (m t f : Nat) (I : Nat → Nat → Int), t + m = n → PpFr I I0 → (∀ b, b = 77 ∨ 79 ≤ b → I b = I0 b) → MyOk I n K (lvOf K LW) t → ∃ I', PpFr I' I0 ∧ (∀ b, b = 77 ∨ 79 ≤ b → I' b = I0 b) ∧ lp (d + 5) 29 (f + 10 * m + 1) 2 [some (iR (some 76)), some (iR (some 4)), some (iR (some 52)), some (iI (t : Int)), none] [] (st h I J) = some (o0, st h I' J) ∧ MyOk I' n K (lvOf K LW) n := by
  have h7 := o.2.2.1.1
  have s := o.1
  intro m
  induction m with
  | zero =>
    intro t f I hk hf hf2 hw
    have o1 := o.pp hf
    refine ⟨I, hf, hf2, ?_, by rw [show t = n by omega] at hw; exact hw⟩
    rw [show f + 10 * 0 + 1 = f + 1 by omega, e_Pa_fillMay_2, xB_s, ygI (aT_4 s), tl_now o1 en, if_neg (by omega)]
  | succ m ih =>
    intro t f I hk hf hf2 hw
    have o1 := o.pp hf
    obtain ⟨I1, a1, a4, a2, a3⟩ := l_my20 (d := d) (J := J) o en (t := t) (by omega) n 0 (f + 10 * m + 1 + (8 - n)) (up I 78 t 0) (by omega) ((PpFr.up _ _ _ (by omega)).tr hf) (fun b hb => by rw [up_na (by omega)]; exact hf2 b hb) (fun t' h1 => by rw [up_ni (by omega)]; exact hw t' h1) (by rw [up_eq]; rfl)
    obtain ⟨I2, b1, b4, b2, b3⟩ := ih (t + 1) (f + (8 - n)) I1 (by omega) a1 a4 a3
    refine ⟨I2, b1, b4, ?_, b3⟩
    have a2' : lp (d + 5) 29 (f + 10 * m + 1 + (8 - n) + n + 1) 20 [some (iR (some 76)), some (iR (some 4)), some (iR (some 52)), some (iI (t : Int)), some (iI 0)] [] (st h (up I 78 t 0) J) = _ := a2
    rw [show f + 10 * (m + 1) + 1 = (f + 10 * m + 1 + (8 - n) + n + 1) + 1 by omega, e_Pa_fillMay_2, xB_s, ygI (aT_4 s), tl_now o1 en, if_pos (by omega), ygR (aT_76 s) (aR_76_1 s), xB_s, ysN (aT_78 s) (by omega) (aL_78 s) (by omega), a2', show f + 10 * m + 1 + (8 - n) = f + (8 - n) + 10 * m + 1 by omega]
    exact b2
theorem s_fillM {I : Nat → Nat → Int} (o : NowOk h I K LW) (en : K 183 = (n : Int)) : ∃ I', PpFr I' I ∧ (∀ b, b = 77 ∨ 79 ≤ b → I' b = I b) ∧ rn (d + 6) 29 [iR (some 76), iR (some 4), iR (some 52)] (st h I J) = some (o0, st h I' J) ∧ MyOk I' n K (lvOf K LW) n := by
  have h7 := o.2.2.1.1
  obtain ⟨I', a1, a4, a2, a3⟩ := l_my2 (d := d) (J := J) o en n 0 (999998 - 10 * n) I (by omega) (PpFr.rf I) (fun _ _ => rfl) (fun t' h => by omega)
  rw [show 999998 - 10 * n + 10 * n + 1 = 999999 by omega] at a2
  refine ⟨I', a1, a4, ?_, a3⟩
  rw [r_Pa_fillMay, e_Pa_fillMay]
  exact a2
theorem mayN_bit (K : Nat → Int) (L : LwV) {t s n : Nat} (hs : s < n) : (mayN K L t n).testBit s = decide (haveK K L (t : Int) (s : Int) = 1) := by
  unfold mayN
  rw [mkB_bit]
  simp [hs]
/-- the row of worths done up to a pair -/
def WrOk (I : Nat → Nat → Int) (n : Nat) (ok : Nat → Nat → Bool) (w : Nat → Nat → Int) (t s : Nat) : Prop := ∀ t' s', t' < n → s' < n → (t' < t ∨ (t' = t ∧ s' < s)) → I 79 (7 * t' + s') = if ok t' s' = true then w t' s' else BRK
theorem WrOk.step {I : Nat → Nat → Int} {ok : Nat → Nat → Bool} {w : Nat → Nat → Int} {t u : Nat} (hw : WrOk I n ok w t u) (hn : n ≤ 7) {x : Int} (hx : x = if ok t u = true then w t u else BRK) : WrOk (up I 79 (7 * t + u) x) n ok w t (u + 1) := fun t' s' h1 h2 h3 => by
  by_cases c : 7 * t' + s' = 7 * t + u
  · by_cases c2 : s' < 7 ∧ u < 7
    · have : t' = t ∧ s' = u := by omega
      obtain ⟨rfl, rfl⟩ := this
      rw [up_eq]
      exact hx
    · have : t' = t ∧ s' = u := by omega
      obtain ⟨rfl, rfl⟩ := this
      rw [up_eq]
      exact hx
  · rw [up_ni c]
    exact hw t' s' h1 h2 (by omega)
theorem l_wl25 (s : ShT h) (hn : n ≤ 7) {I0 : Nat → Nat → Int} (e4 : I0 4 0 = (n : Int)) {L : LwV} (hL : LkOk I0 n K L) (hM : MyOk I0 n K L n) {t : Nat} (ht : t < n) : ∀ (m u f : Nat) (I : Nat → Nat → Int), u + m = n → (∀ b, b ≠ 79 → I b = I0 b) → WrOk I n (okM K L 0) (wM K L 0 n) t u → ∃ I', (∀ b, b ≠ 79 → I' b = I0 b) ∧ lp d 30 (f + m + 1) 25 [some (iR (some 76)), some (iR (some 4)), none, some (iI (t : Int)), some (iI (u : Int)), none] [] (st h I J) = lp d 30 f 14 [some (iR (some 76)), some (iR (some 4)), none, some (iI ((t + 1 : Nat) : Int)), none, none] [] (st h I' J) ∧ WrOk I' n (okM K L 0) (wM K L 0 n) (t + 1) 0 := by
  intro m
  induction m with
  | zero =>
    intro u f I hk hf hw
    refine ⟨I, hf, ?_, fun t' s' h1 h2 h3 => hw t' s' h1 h2 (by omega)⟩
    rw [Nat.add_zero, e_Pa_weighLikings_25, xB_s, ygI (aT_4 s), hf 4 (by omega), e4, if_neg (by omega), wr_id (by omega) (by omega)]
    rfl
  | succ m ih =>
    intro u f I hk hf hw
    have hu : u < n := by omega
    have hm := mayN_lt K L t hn
    have wu : wr ((u : Int) + 1) = ((u + 1 : Nat) : Int) := by rw [wr_id (by omega) (by omega)]; rfl
    have wi : wr (wr ((t : Int) * 7) + (u : Int)) = ((7 * t + u : Nat) : Int) := by rw [wr_id (x := (t : Int) * 7) (by omega) (by omega), wr_id (by omega) (by omega)]; omega
    have ew : wM K L 0 n t u = likeK K L (t : Int) (u : Int) := by unfold wM; rw [if_pos ⟨ht, hu⟩, if_pos rfl]
    have eo : okM K L 0 t u = decide (haveK K L (t : Int) (u : Int) = 1) := by unfold okM; simp
    have hd : lp d 30 (f + (m + 1) + 1) 25 [some (iR (some 76)), some (iR (some 4)), none, some (iI (t : Int)), some (iI (u : Int)), none] [] (st h I J) = lp d 30 (f + m + 1) 25 [some (iR (some 76)), some (iR (some 4)), none, some (iI (t : Int)), some (iI ((u + 1 : Nat) : Int)), none] [] (st h (up I 79 (7 * t + u) (if okM K L 0 t u = true then wM K L 0 n t u else BRK)) J) := by
      rw [show f + (m + 1) + 1 = (f + m + 1) + 1 by omega, e_Pa_weighLikings_25, xB_s, ygI (aT_4 s), hf 4 (by omega), e4, if_pos (by omega), ygR (aT_76 s) (aR_76_2 s), ygR (aT_76 s) (aR_76_1 s), xB_s, yaN (aT_78 s) (aL_78 s) (by omega), hf 78 (by omega), hM t ht, shrI hm (by omega), mayN_bit K L hu, wi, wu, eo, ew]
      by_cases c : haveK K L (t : Int) (u : Int) = 1
      · rw [if_pos (show (if decide (haveK K L (t : Int) (u : Int) = 1) = true then (1 : Int) else 0) = 1 by rw [if_pos (decide_eq_true c)]), if_pos (decide_eq_true c), ygR (aT_76 s) (aR_76_0 s), xB_s, zAI (i := 7 * t + u) (aT_77 s) (aL_77 s) rfl (by omega), hf 77 (by omega), hL t u ht hu, xB_s, zSI (i := 7 * t + u) (aT_79 s) (by omega) (aL_79 s) rfl (by omega)]
      · rw [if_neg (show ¬ (if decide (haveK K L (t : Int) (u : Int) = 1) = true then (1 : Int) else 0) = 1 by rw [if_neg (by simp [c])]; decide), if_neg (by simp [c]), xB_s, zSI (i := 7 * t + u) (aT_79 s) (by omega) (aL_79 s) rfl (by omega)]
    obtain ⟨I2, b1, b2, b3⟩ := ih (u + 1) f _ (by omega) (fun b hb => by rw [up_na hb]; exact hf b hb) (hw.step hn (x := if okM K L 0 t u = true then wM K L 0 n t u else BRK) rfl)
    exact ⟨I2, b1, hd.trans b2, b3⟩
theorem l_wl14 (s : ShT h) (hn : n ≤ 7) {I0 : Nat → Nat → Int} (e4 : I0 4 0 = (n : Int)) {L : LwV} (hL : LkOk I0 n K L) (hM : MyOk I0 n K L n) : ∀ (m t f : Nat) (I : Nat → Nat → Int), t + m = n → (∀ b, b ≠ 79 → I b = I0 b) → WrOk I n (okM K L 0) (wM K L 0 n) t 0 → ∃ I', (∀ b, b ≠ 79 → I' b = I0 b) ∧ lp d 30 (f + 10 * m + 1) 14 [some (iR (some 76)), some (iR (some 4)), none, some (iI (t : Int)), none, none] [] (st h I J) = some (o0, st h I' J) ∧ WtOk I' n (okM K L 0) (wM K L 0 n) := by
  intro m
  induction m with
  | zero =>
    intro t f I hk hf hw
    refine ⟨I, hf, ?_, fun t' s' h1 h2 => hw t' s' h1 h2 (by omega)⟩
    rw [show f + 10 * 0 + 1 = f + 1 by omega, e_Pa_weighLikings_14, xB_s, ygI (aT_4 s), hf 4 (by omega), e4, if_neg (by omega)]
  | succ m ih =>
    intro t f I hk hf hw
    obtain ⟨I1, a1, a2, a3⟩ := l_wl25 (d := d) (J := J) s hn e4 hL hM (t := t) (by omega) n 0 (f + 10 * m + 1 + (8 - n)) I (by omega) hf hw
    obtain ⟨I2, b1, b2, b3⟩ := ih (t + 1) (f + (8 - n)) I1 (by omega) a1 a3
    refine ⟨I2, b1, ?_, b3⟩
    have a2' : lp d 30 (f + 10 * m + 1 + (8 - n) + n + 1) 25 [some (iR (some 76)), some (iR (some 4)), none, some (iI (t : Int)), some (iI 0), none] [] (st h I J) = _ := a2
    rw [show f + 10 * (m + 1) + 1 = (f + 10 * m + 1 + (8 - n) + n + 1) + 1 by omega, e_Pa_weighLikings_14, xB_s, ygI (aT_4 s), hf 4 (by omega), e4, if_pos (by omega), a2', show f + 10 * m + 1 + (8 - n) = f + (8 - n) + 10 * m + 1 by omega]
    exact b2
/-- the worths by likings -/
theorem s_weighL {I : Nat → Nat → Int} (o : NowOk h I K LW) (en : K 183 = (n : Int)) : ∃ I', PpFr I' I ∧ rn (d + 7) 30 [iR (some 76), iR (some 4), iR (some 52)] (st h I J) = some (o0, st h I' J) ∧ WtOk I' n (okM K (lvOf K LW) 0) (wM K (lvOf K LW) 0 n) := by
  have h7 := o.2.2.1.1
  have s := o.1
  obtain ⟨I1, a1, a2, a3, a4⟩ := s_fillL (d := d + 1) (J := J) o en
  have o1 := o.pp a1
  obtain ⟨I2, b1, b2, b3, b4⟩ := s_fillM (d := d) (J := J) o1 en
  have o2 := o1.pp b1
  obtain ⟨I3, c1, c2, c3⟩ := l_wl14 (d := d + 6) (J := J) s (by omega) (tl_now o2 en) (K := K) (L := lvOf K LW) (fun t u ht hu => by rw [b2 77 (by omega)]; exact a4 t u ht hu) b4 n 0 (999998 - 10 * n) I2 (by omega) (fun _ _ => rfl) (fun t' s' _ _ h3 => by omega)
  rw [show 999998 - 10 * n + 10 * n + 1 = 999999 by omega] at c2
  refine ⟨I3, PpFr.tr (fun b q1 q2 => c1 b (by omega)) (b1.tr a1), ?_, c3⟩
  rw [r_Pa_weighLikings, e_Pa_weighLikings, yck (aT_76 s), a3, kV_o, yck (aT_76 s), b3, kV_o]
  exact c2
theorem l_wm19 {I0 : Nat → Nat → Int} (o : NowOk h I0 K LW) (en : K 183 = (n : Int)) (hM : MyOk I0 n K (lvOf K LW) n) {t : Nat} (ht : t < n) : ∀ (m u f : Nat) (I : Nat → Nat → Int), u + m = n → (∀ b, b ≠ 79 → I b = I0 b) → WrOk I n (okM K (lvOf K LW) 1) (wM K (lvOf K LW) 1 n) t u → ∃ I', (∀ b, b ≠ 79 → I' b = I0 b) ∧ lp (d + 1) 31 (f + m + 1) 19 [some (iR (some 76)), some (iR (some 4)), none, some (iI (t : Int)), some (iI (u : Int)), none, none] [] (st h I J) = lp (d + 1) 31 f 8 [some (iR (some 76)), some (iR (some 4)), none, some (iI ((t + 1 : Nat) : Int)), none, none, none] [] (st h I' J) ∧ WrOk I' n (okM K (lvOf K LW) 1) (wM K (lvOf K LW) 1 n) (t + 1) 0 := by
  have h7 := o.2.2.1.1
  have s := o.1
  have k := o.2.2.1
  have e4 := tl_now o en
  intro m
  induction m with
  | zero =>
    intro u f I hk hf hw
    refine ⟨I, hf, ?_, fun t' s' h1 h2 h3 => hw t' s' h1 h2 (by omega)⟩
    rw [Nat.add_zero, e_Pa_weighMiles_19, xB_s, ygI (aT_4 s), hf 4 (by omega), e4, if_neg (by omega), wr_id (by omega) (by omega)]
    rfl
  | succ m ih =>
    intro u f I hk hf hw
    have hu : u < n := by omega
    have hm := mayN_lt K (lvOf K LW) t (k := n) (by omega)
    have wu : wr ((u : Int) + 1) = ((u + 1 : Nat) : Int) := by rw [wr_id (by omega) (by omega)]; rfl
    have wi : wr (wr ((t : Int) * 7) + (u : Int)) = ((7 * t + u : Nat) : Int) := by rw [wr_id (x := (t : Int) * 7) (by omega) (by omega), wr_id (by omega) (by omega)]; omega
    have ew : wM K (lvOf K LW) 1 n t u = -(milesK K (atK K (u : Int)) (t : Int)) := by unfold wM; rw [if_pos ⟨ht, hu⟩, if_neg (by decide)]
    have eo : okM K (lvOf K LW) 1 t u = (decide (haveK K (lvOf K LW) (t : Int) (u : Int) = 1) && decide (K (14 + (7 * t + u)) = 0)) := by unfold okM; simp
    have hat := atK_ok k (s := (u : Int)) (by omega)
    have hmi := milesK_in k (p := atK K (u : Int)) (t := (t : Int)) (by omega) (by omega)
    have e6 : I 6 u = atK K (u : Int) := by
      rw [hf 6 (by omega)]
      have := o.2.1.at (s := (u : Int)) (by omega) (by omega)
      rw [Int.toNat_natCast] at this
      exact this
    have e9 : I 9 (7 * t + u) = K (14 + (7 * t + u)) := by
      rw [hf 9 (by omega)]
      exact (o.2.1.2.2.1.2.1 (7 * t + u) (by omega)).1
    have emi : rn (d + 1) 13 [iR (some 4), iI (atK K (u : Int)), iI (t : Int)] (st h I J) = some (oI (milesK K (atK K (u : Int)) (t : Int)), st h I J) := by
      rw [s_milesBetween (d := d) (J := J) (ShT_4 s) (x := atK K (u : Int)) (y := (t : Int)) (by omega) (by omega)]
      have e10 : I (4 + 6) (atK K (u : Int) * 7 + (t : Int)).toNat = milesK K (atK K (u : Int)) (t : Int) := by
        rw [hf (4 + 6) (by omega), show (atK K (u : Int) * 7 + (t : Int)).toNat = (7 * atK K (u : Int) + (t : Int)).toNat by congr 1; omega]
        exact (o.2.1.2.2.1.2.1 (7 * atK K (u : Int) + (t : Int)).toNat (by omega)).2
      rw [e10]
    have hd : lp (d + 1) 31 (f + (m + 1) + 1) 19 [some (iR (some 76)), some (iR (some 4)), none, some (iI (t : Int)), some (iI (u : Int)), none, none] [] (st h I J) = lp (d + 1) 31 (f + m + 1) 19 [some (iR (some 76)), some (iR (some 4)), none, some (iI (t : Int)), some (iI ((u + 1 : Nat) : Int)), none, none] [] (st h (up I 79 (7 * t + u) (if okM K (lvOf K LW) 1 t u = true then wM K (lvOf K LW) 1 n t u else BRK)) J) := by
      rw [show f + (m + 1) + 1 = (f + m + 1) + 1 by omega, e_Pa_weighMiles_19, xB_s, ygI (aT_4 s), hf 4 (by omega), e4, if_pos (by omega), ygR (aT_76 s) (aR_76_1 s), xB_s, yaN (aT_78 s) (aL_78 s) (by omega), hf 78 (by omega), hM t ht, shrI hm (by omega), mayN_bit K (lvOf K LW) hu, wi, wu, eo, ew]
      by_cases c : haveK K (lvOf K LW) (t : Int) (u : Int) = 1
      · rw [if_pos (show (if decide (haveK K (lvOf K LW) (t : Int) (u : Int) = 1) = true then (1 : Int) else 0) = 1 by rw [if_pos (decide_eq_true c)]), xB_s, ygR (aT_4 s) (aR_4_5 s), xB_s, zAI (i := 7 * t + u) (aT_9 s) (aL_9 s) rfl (by omega), e9]
        by_cases c2 : K (14 + (7 * t + u)) = 0
        · rw [if_pos c2, ygR (aT_76 s) (aR_76_2 s), if_neg (by decide), xB_s, ygR (aT_4 s) (aR_4_2 s), xB_s, yaN (aT_6 s) (aL_6 s) (by omega), e6, xB_s, yck (aT_4 s), emi, kI_o, xB_s, zSI (i := 7 * t + u) (aT_79 s) (by omega) (aL_79 s) rfl (by omega), wr_id (by omega) (by omega), if_pos (by simp [c, c2])]
        · rw [if_neg c2, ygR (aT_76 s) (aR_76_2 s), if_pos rfl, xB_s, zSI (i := 7 * t + u) (aT_79 s) (by omega) (aL_79 s) rfl (by omega), if_neg (by simp [c2])]
      · rw [if_neg (show ¬ (if decide (haveK K (lvOf K LW) (t : Int) (u : Int) = 1) = true then (1 : Int) else 0) = 1 by rw [if_neg (by simp [c])]; decide), ygR (aT_76 s) (aR_76_2 s), if_pos rfl, xB_s, zSI (i := 7 * t + u) (aT_79 s) (by omega) (aL_79 s) rfl (by omega), if_neg (by simp [c])]
    obtain ⟨I2, b1, b2, b3⟩ := ih (u + 1) f _ (by omega) (fun b hb => by rw [up_na hb]; exact hf b hb) (hw.step (by omega) (x := if okM K (lvOf K LW) 1 t u = true then wM K (lvOf K LW) 1 n t u else BRK) rfl)
    exact ⟨I2, b1, hd.trans b2, b3⟩
theorem l_wm8 {I0 : Nat → Nat → Int} (o : NowOk h I0 K LW) (en : K 183 = (n : Int)) (hM : MyOk I0 n K (lvOf K LW) n) : ∀ (m t f : Nat) (I : Nat → Nat → Int), t + m = n → (∀ b, b ≠ 79 → I b = I0 b) → WrOk I n (okM K (lvOf K LW) 1) (wM K (lvOf K LW) 1 n) t 0 → ∃ I', (∀ b, b ≠ 79 → I' b = I0 b) ∧ lp (d + 1) 31 (f + 10 * m + 1) 8 [some (iR (some 76)), some (iR (some 4)), none, some (iI (t : Int)), none, none, none] [] (st h I J) = some (o0, st h I' J) ∧ WtOk I' n (okM K (lvOf K LW) 1) (wM K (lvOf K LW) 1 n) := by
  have h7 := o.2.2.1.1
  have s := o.1
  have e4 := tl_now o en
  intro m
  induction m with
  | zero =>
    intro t f I hk hf hw
    refine ⟨I, hf, ?_, fun t' s' h1 h2 => hw t' s' h1 h2 (by omega)⟩
    rw [show f + 10 * 0 + 1 = f + 1 by omega, e_Pa_weighMiles_8, xB_s, ygI (aT_4 s), hf 4 (by omega), e4, if_neg (by omega)]
  | succ m ih =>
    intro t f I hk hf hw
    obtain ⟨I1, a1, a2, a3⟩ := l_wm19 (d := d) (J := J) o en hM (t := t) (by omega) n 0 (f + 10 * m + 1 + (8 - n)) I (by omega) hf hw
    obtain ⟨I2, b1, b2, b3⟩ := ih (t + 1) (f + (8 - n)) I1 (by omega) a1 a3
    refine ⟨I2, b1, ?_, b3⟩
    have a2' : lp (d + 1) 31 (f + 10 * m + 1 + (8 - n) + n + 1) 19 [some (iR (some 76)), some (iR (some 4)), none, some (iI (t : Int)), some (iI 0), none, none] [] (st h I J) = _ := a2
    rw [show f + 10 * (m + 1) + 1 = (f + 10 * m + 1 + (8 - n) + n + 1) + 1 by omega, e_Pa_weighMiles_8, xB_s, ygI (aT_4 s), hf 4 (by omega), e4, if_pos (by omega), a2', show f + 10 * m + 1 + (8 - n) = f + (8 - n) + 10 * m + 1 by omega]
    exact b2
/-- the worths by miles -/
theorem s_weighM {I : Nat → Nat → Int} (o : NowOk h I K LW) (en : K 183 = (n : Int)) : ∃ I', PpFr I' I ∧ rn (d + 7) 31 [iR (some 76), iR (some 4), iR (some 52)] (st h I J) = some (o0, st h I' J) ∧ WtOk I' n (okM K (lvOf K LW) 1) (wM K (lvOf K LW) 1 n) := by
  have h7 := o.2.2.1.1
  have s := o.1
  obtain ⟨I2, b1, b2, b3, b4⟩ := s_fillM (d := d) (J := J) o en
  have o2 := o.pp b1
  obtain ⟨I3, c1, c2, c3⟩ := l_wm8 (d := d + 5) (J := J) o2 en b4 n 0 (999998 - 10 * n) I2 (by omega) (fun _ _ => rfl) (fun t' s' _ _ h3 => by omega)
  rw [show 999998 - 10 * n + 10 * n + 1 = 999999 by omega] at c2
  refine ⟨I3, PpFr.tr (fun b q1 q2 => c1 b (by omega)) b1, ?_, c3⟩
  rw [r_Pa_weighMiles, e_Pa_weighMiles, yck (aT_76 s), b3, kV_o]
  exact c2
end P87
