/-! Rings (by program, wip/whole/gen98j.py) -/
/-- k steps -/
def itr (A : Nat → Nat) : Nat → Nat → Nat
  | 0, t => t
  | k + 1, t => itr A k (A t)
section P98ja
variable {A : Nat → Nat} {n : Nat}
theorem itr_s : ∀ (k t : Nat), itr A (k + 1) t = A (itr A k t)
  | 0, _ => rfl
  | k + 1, t => by
    show itr A (k + 1) (A t) = A (itr A k (A t))
    exact itr_s k (A t)
theorem itr_add : ∀ (i j t : Nat), itr A (i + j) t = itr A j (itr A i t)
  | i, 0, t => rfl
  | i, j + 1, t => by
    show itr A (i + j + 1) t = itr A (j + 1) (itr A i t)
    rw [itr_s, itr_s, itr_add i j t]
/-- of n + 1 numbers below n two are the same -/
theorem pig : ∀ (n : Nat) (g : Nat → Nat), (∀ i, i ≤ n → g i < n) → ∃ i j, i < j ∧ j ≤ n ∧ g i = g j
  | 0, g, hg => by
    have := hg 0 (Nat.le_refl 0)
    omega
  | n + 1, g, hg => by
    by_cases c : ∃ i, i ≤ n ∧ g i = g (n + 1)
    · obtain ⟨i, i1, i2⟩ := c
      exact ⟨i, n + 1, by omega, Nat.le_refl _, i2⟩
    · have h1 := hg (n + 1) (Nat.le_refl _)
      obtain ⟨i, j, a1, a2, a3⟩ := pig n (fun i => if g i = n then g (n + 1) else g i) (fun i hi => by
        have h2 := hg i (by omega)
        show (if g i = n then g (n + 1) else g i) < n
        by_cases z : g i = n
        · rw [if_pos z]
          by_cases y : g (n + 1) = n
          · exact absurd ⟨i, hi, by rw [z, y]⟩ c
          · omega
        · rw [if_neg z]
          omega)
      refine ⟨i, j, a1, by omega, ?_⟩
      have a3' : (if g i = n then g (n + 1) else g i) = (if g j = n then g (n + 1) else g j) := a3
      by_cases z : g i = n
      · rw [if_pos z] at a3'
        by_cases y : g j = n
        · rw [z, y]
        · rw [if_neg y] at a3'
          exact absurd ⟨j, a2, a3'.symm⟩ c
      · rw [if_neg z] at a3'
        by_cases y : g j = n
        · rw [if_pos y] at a3'
          exact absurd ⟨i, by omega, a3'⟩ c
        · rw [if_neg y] at a3'
          exact a3'
theorem itr_lt (hA : ∀ t, t < n → A t < n) {t : Nat} (ht : t < n) : ∀ k, itr A k t < n
  | 0 => ht
  | k + 1 => by
    rw [itr_s]
    exact hA _ (itr_lt hA ht k)
theorem itr_inj (hA : ∀ t, t < n → A t < n) (inj : ∀ t u, t < n → u < n → A t = A u → t = u) : ∀ (k t u : Nat), t < n → u < n → itr A k t = itr A k u → t = u
  | 0, _, _, _, _, e => e
  | k + 1, t, u, ht, hu, e => inj t u ht hu (itr_inj hA inj k (A t) (A u) (hA t ht) (hA u hu) e)
theorem itr_per (hA : ∀ t, t < n → A t < n) (inj : ∀ t u, t < n → u < n → A t = A u → t = u) {t : Nat} (ht : t < n) : ∃ p, 1 ≤ p ∧ p ≤ n ∧ itr A p t = t := by
  obtain ⟨i, j, h1, h2, h3⟩ := pig n (fun i => itr A i t) fun i _ => itr_lt hA ht i
  refine ⟨j - i, by omega, by omega, ?_⟩
  have e : itr A j t = itr A i (itr A (j - i) t) := by
    rw [← itr_add, show j - i + i = j by omega]
  have h3' : itr A i t = itr A j t := h3
  rw [e] at h3'
  exact (itr_inj hA inj i t _ ht (itr_lt hA ht _) h3').symm
theorem itr_mul {p t : Nat} (hp : itr A p t = t) : ∀ m, itr A (p * m) t = t
  | 0 => rfl
  | m + 1 => by
    rw [Nat.mul_succ, itr_add, itr_mul hp m, hp]
theorem itr_mod {p t : Nat} (hp : itr A p t = t) (i : Nat) : itr A i t = itr A (i % p) t := by
  have e : i = p * (i / p) + i % p := (Nat.div_add_mod i p).symm
  have : itr A (p * (i / p) + i % p) t = itr A (i % p) t := by rw [itr_add, itr_mul hp]
  rw [← e] at this
  exact this
theorem itr_back {p t i s : Nat} (hp1 : 1 ≤ p) (hp : itr A p t = t) (e : itr A i t = s) : ∃ j, itr A j s = t := by
  have hm := Nat.mod_lt i (show p > 0 by omega)
  refine ⟨p - i % p, ?_⟩
  rw [← e, itr_mod hp i, ← itr_add, show i % p + (p - i % p) = p by omega, hp]
def rgF (A : Nat → Nat) (t : Nat) : Nat → Nat → Nat
  | 0, l => l
  | q + 1, l => if itr A l t = t then l else rgF A t q (l + 1)
theorem rgF_b {t : Nat} : ∀ (q l : Nat), l ≤ rgF A t q l ∧ rgF A t q l ≤ l + q
  | 0, l => ⟨Nat.le_refl _, Nat.le_refl _⟩
  | q + 1, l => by
    have := rgF_b (t := t) q (l + 1)
    show l ≤ (if itr A l t = t then l else rgF A t q (l + 1)) ∧ (if itr A l t = t then l else rgF A t q (l + 1)) ≤ l + (q + 1)
    split <;> omega
end P98ja
def cmF (x y : Nat) : Nat → Nat → Nat
  | 0, m => m
  | q + 1, m => if m % y = 0 then m else cmF x y q (m + x)
def gcF : Nat → Nat → Nat → Nat
  | 0, x, _ => x
  | q + 1, x, y => if y = 0 then x else gcF q y (x % y)
theorem cm_ok : ((List.range 420).all fun x => (List.range 7).all fun y => decide (cmF (x + 1) (y + 1) y (x + 1) = (x + 1) / gcF 9 (x + 1) (y + 1) * (y + 1)) && (decide (420 % (x + 1) ≠ 0) || decide (420 % cmF (x + 1) (y + 1) y (x + 1) = 0)) && decide (0 < cmF (x + 1) (y + 1) y (x + 1)) && decide (0 < gcF 9 (x + 1) (y + 1)) && decide (gcF 9 (x + 1) (y + 1) ≤ 420)) = true := by decide +kernel
theorem cm_is {x y : Nat} (hx : 1 ≤ x ∧ x ≤ 420) (hy : 1 ≤ y ∧ y ≤ 7) : cmF x y (y - 1) x = x / gcF 9 x y * y ∧ (420 % x = 0 → 420 % cmF x y (y - 1) x = 0) ∧ 0 < cmF x y (y - 1) x ∧ 0 < gcF 9 x y ∧ gcF 9 x y ≤ 420 := by
  have h1 := List.all_eq_true.mp (List.all_eq_true.mp cm_ok (x - 1) (List.mem_range.mpr (by omega))) (y - 1) (List.mem_range.mpr (by omega))
  rw [show x - 1 + 1 = x by omega, show y - 1 + 1 = y by omega, Bool.and_eq_true, Bool.and_eq_true, Bool.and_eq_true, Bool.and_eq_true, Bool.or_eq_true, decide_eq_true_eq, decide_eq_true_eq, decide_eq_true_eq, decide_eq_true_eq, decide_eq_true_eq, decide_eq_true_eq] at h1
  obtain ⟨⟨⟨⟨h1, h2⟩, h3⟩, h4⟩, h5⟩ := h1
  refine ⟨h1, fun z => ?_, h3, h4, h5⟩
  rcases h2 with w | w
  · exact absurd z w
  · exact w
theorem le_420 {x : Nat} (h : 420 % x = 0) (h0 : 0 < x) : x ≤ 420 := Nat.le_of_dvd (by omega) (Nat.dvd_of_mod_eq_zero h)
/-- where Sundays are -/
noncomputable def atN (K : Nat → Int) (x : Nat) : Nat := (atK K (x : Int)).toNat
/-- after how often all is home again -/
noncomputable def rpN (A : Nat → Nat) : Nat → Nat
  | 0 => 1
  | t + 1 => cmF (rpN A t) (rgF A t 6 1) (rgF A t 6 1 - 1) (rpN A t)
theorem rpN_ok {A : Nat → Nat} : ∀ t, 420 % rpN A t = 0 ∧ 0 < rpN A t
  | 0 => ⟨by show 420 % 1 = 0; rfl, by show 0 < 1; omega⟩
  | t + 1 => by
    obtain ⟨h1, h2⟩ := rpN_ok (A := A) t
    have h3 := le_420 h1 h2
    have h4 := rgF_b (A := A) (t := t) 6 1
    obtain ⟨-, c2, c3, -⟩ := cm_is (x := rpN A t) (y := rgF A t 6 1) (by omega) (by omega)
    exact ⟨c2 h1, c3⟩
noncomputable def lowP (A : Nat → Nat) (c : Nat) : Prop := ¬ ∃ t i, t < c ∧ itr A i t = c
noncomputable def lowC (A : Nat → Nat) : Nat → Nat
  | 0 => 0
  | c + 1 => lowC A c + @ite _ (lowP A c) (Classical.propDecidable _) 1 0
theorem lowC_le {A : Nat → Nat} : ∀ c, lowC A c ≤ c
  | 0 => Nat.le_refl _
  | c + 1 => by
    have := lowC_le (A := A) c
    show lowC A c + _ ≤ c + 1
    split <;> omega
section P98j
variable {h : IH} {I I0 I1 I2 I' J : Nat → Nat → Int} {k L d n : Nat} {xs : Nat → Int32} {K K' : Nat → Int} {LW : Nat → Nat × (Nat → Cls)} {LV : LwV}
theorem m_where (m : ShM h 88) (k : KOk K) (e90 : I 90 = K) {x : Int} (hx : 0 ≤ x ∧ x < K 183) : rn (d + 1) 163 [iR (some 88), iI x] (st h I J) = some (oI (atK K x), st h I J) := by
  have hn := k.1
  have ha := s_whereIs (d := d) (J := J) (I := I) m (s := x) (k := (K 183).toNat) (by omega) (by
    obtain ⟨u, u1, u2⟩ := k.2.1.2 x.toNat (by omega)
    exact ⟨u, by omega, by show I 90 u = x; rw [e90, u2]; omega⟩)
  rw [ha]
  show some (oI ((firstAt (I 90) x 0 (K 183).toNat : Nat) : Int), st h I J) = _
  rw [e90]
  rfl
theorem atN_lt (k : KOk K) (en : K 183 = (n : Int)) : ∀ t, t < n → atN K t < n := fun t ht => by
  have := (atK_ok k (s := (t : Int)) (by omega)).1
  unfold atN
  omega
theorem atN_i (k : KOk K) (en : K 183 = (n : Int)) {t : Nat} (ht : t < n) : atK K (t : Int) = ((atN K t : Nat) : Int) := by
  have := (atK_ok k (s := (t : Int)) (by omega)).1
  unfold atN
  omega
theorem atN_inj (k : KOk K) (en : K 183 = (n : Int)) : ∀ t u, t < n → u < n → atN K t = atN K u → t = u := fun t u ht hu e => by
  have h1 := atK_ok k (s := (t : Int)) (by omega)
  have h2 := atK_ok k (s := (u : Int)) (by omega)
  have e' : (atK K (t : Int)).toNat = (atK K (u : Int)).toNat := e
  rw [e', h2.2] at h1
  omega
theorem t_at (o : NowOk h I K LW) (en : K 183 = (n : Int)) {t : Nat} (ht : t < n) : I 6 t = ((atN K t : Nat) : Int) := by
  have hn := o.2.2.1.1
  have e := o.2.1.at (s := (t : Int)) (by omega) (by omega)
  rw [Int.toNat_natCast] at e
  rw [← atN_i o.2.2.1 en ht]
  exact e
theorem l_rgT (s : ShT h) (o : NowOk h I K LW) (en : K 183 = (n : Int)) {t : Nat} (ht : t < n) : ∀ (q l f : Nat), l + q = 7 → lp d 144 (f + q + 1) 12 [some (iR (some 3)), some (iI (t : Int)), some (iI (l : Int)), some (iI (itr (atN K) l t : Nat))] [] (st h I J) = some (oI (rgF (atN K) t q l : Nat), st h I J) := by
  have hn := o.2.2.1.1
  intro q
  induction q with
  | zero =>
    intro l f hl
    rw [Nat.add_zero, e_T_ringLength_12]
    show _ = some (oI ((l : Nat) : Int), st h I J)
    by_cases z : ((itr (atN K) l t : Nat) : Int) = (t : Int)
    · rw [if_pos z]
    · rw [if_neg z, if_neg (by omega)]
  | succ q ih =>
    intro l f hl
    have hlt := itr_lt (atN_lt o.2.2.1 en) ht l
    have i0 := ih (l + 1) f (by omega)
    rw [itr_s] at i0
    rw [show f + (q + 1) + 1 = (f + q + 1) + 1 by omega, e_T_ringLength_12]
    show _ = some (oI ((if itr (atN K) l t = t then l else rgF (atN K) t q (l + 1) : Nat) : Int), st h I J)
    by_cases z : itr (atN K) l t = t
    · rw [if_pos (by omega), if_pos z]
    · rw [if_neg (by omega), if_neg z, if_pos (by omega), ygR (aT_3 s) (aR_3_0 s), xB_s, ygR (aT_4 s) (aR_4_2 s), xB_s, yaIv (i := itr (atN K) l t) (aT_6 s) (aL_6 s) rfl (by omega) (t_at o en hlt), wr_id (x := (l : Int) + 1) (by omega) (by omega), show (l : Int) + 1 = ((l + 1 : Nat) : Int) by omega, i0]
theorem t_ring (s : ShT h) (o : NowOk h I K LW) (en : K 183 = (n : Int)) {t : Nat} (ht : t < n) : rn (d + 1) 144 [iR (some 3), iI (t : Int)] (st h I J) = some (oI (rgF (atN K) t 6 1 : Nat), st h I J) := by
  have hn := o.2.2.1.1
  have i0 := l_rgT (d := d) (J := J) s o en ht 6 1 999992 (by omega)
  have i0' : lp d 144 999999 12 [some (iR (some 3)), some (iI (t : Int)), some (iI 1), some (iI (atN K t : Nat))] [] (st h I J) = _ := i0
  rw [r_T_ringLength, e_T_ringLength, ygR (aT_3 s) (aR_3_0 s), xB_s, ygR (aT_4 s) (aR_4_2 s), xB_s, yaIv (i := t) (aT_6 s) (aL_6 s) rfl (by omega) (t_at o en ht), i0']
theorem l_rgM (m : ShM h 88) (k : KOk K) (e90 : I 90 = K) (en : K 183 = (n : Int)) {t : Nat} (ht : t < n) : ∀ (q l f : Nat), l + 1 + q = 7 → (∃ p, l + 1 ≤ p ∧ p ≤ 7 ∧ itr (atN K) p t = t) → lp (d + 1) 244 (f + q + 1) 4 [some (iR (some 88)), some (iI (t : Int)), some (iI (l : Int)), some (iI (itr (atN K) l t : Nat))] [] (st h I J) = some (oI (rgF (atN K) t q (l + 1) : Nat), st h I J) := by
  have hn := k.1
  intro q
  induction q with
  | zero =>
    intro l f hl hp
    obtain ⟨p, p1, p2, p3⟩ := hp
    have hlt := itr_lt (atN_lt k en) ht l
    have e : p = l + 1 := by omega
    rw [e, itr_s] at p3
    rw [Nat.add_zero, e_M_ringOf_4, yck (bT_88 m), m_where m k e90 (by omega), kI_o, atN_i k en hlt, if_pos (by omega), wr_id (by omega) (by omega)]
    rfl
  | succ q ih =>
    intro l f hl hp
    have hlt := itr_lt (atN_lt k en) ht l
    rw [show f + (q + 1) + 1 = (f + q + 1) + 1 by omega, e_M_ringOf_4, yck (bT_88 m), m_where m k e90 (by omega), kI_o, atN_i k en hlt, wr_id (x := (l : Int) + 1) (by omega) (by omega), show (l : Int) + 1 = ((l + 1 : Nat) : Int) by omega]
    show _ = some (oI ((if itr (atN K) (l + 1) t = t then l + 1 else rgF (atN K) t q (l + 1 + 1) : Nat) : Int), st h I J)
    by_cases z : itr (atN K) (l + 1) t = t
    · have z' := z
      rw [itr_s] at z'
      rw [if_pos (by omega), if_pos z]
    · have z' := z
      rw [itr_s] at z'
      rw [if_neg (by omega), if_neg z]
      obtain ⟨p, p1, p2, p3⟩ := hp
      have i0 := ih (l + 1) f (by omega) ⟨p, by
        by_cases y : p = l + 1
        · rw [y] at p3
          exact absurd p3 z
        · omega, p2, p3⟩
      rw [itr_s] at i0
      exact i0
theorem m_ring (m : ShM h 88) (k : KOk K) (e90 : I 90 = K) (en : K 183 = (n : Int)) {t : Nat} (ht : t < n) : rn (d + 2) 244 [iR (some 88), iI (t : Int)] (st h I J) = some (oI (rgF (atN K) t 6 1 : Nat), st h I J) := by
  have hn := k.1
  obtain ⟨p, p1, p2, p3⟩ := itr_per (atN_lt k en) (atN_inj k en) ht
  have i0 := l_rgM (d := d) (J := J) m k e90 en ht 6 0 999992 (by omega) ⟨p, by omega, by omega, p3⟩
  have i0' : lp (d + 1) 244 999999 4 [some (iR (some 88)), some (iI (t : Int)), some (iI 0), some (iI (t : Int))] [] (st h I J) = _ := i0
  rw [r_M_ringOf, e_M_ringOf, i0']
theorem l_cmT {x y : Nat} (hx : x ≤ 420) (hy : 1 ≤ y ∧ y ≤ 7) (h : IH) : ∀ (q i f mu : Nat), i + q = y → 1 ≤ i → mu ≤ 420 * i → lp d 146 (f + q + 1) 4 [some (iI (x : Int)), some (iI (y : Int)), some (iI (mu : Int)), some (iI (i : Int))] [] h = some (oI (cmF x y q mu : Nat), h) := by
  intro q
  induction q with
  | zero =>
    intro i f mu hi h1 hm
    rw [Nat.add_zero, e_T_commonMultiple_4, if_neg (by omega)]
    rfl
  | succ q ih =>
    intro i f mu hi h1 hm
    have e : ((mu % y : Nat) : Int) = (mu : Int) % (y : Int) := Int.natCast_emod mu y
    have hm2 := Nat.mod_lt mu (show y > 0 by omega)
    rw [show f + (q + 1) + 1 = (f + q + 1) + 1 by omega, e_T_commonMultiple_4, if_pos (by omega), xmI_ok (by omega), Int.tmod_eq_emod_of_nonneg (by omega), ← e, wr_id (x := ((mu % y : Nat) : Int)) (by omega) (by omega)]
    show _ = some (oI ((if mu % y = 0 then mu else cmF x y q (mu + x) : Nat) : Int), h)
    by_cases z : mu % y = 0
    · rw [if_pos (by omega), if_pos z]
    · rw [if_neg (by omega), if_neg z, wr_id (x := (mu : Int) + (x : Int)) (by omega) (by omega), wr_id (x := (i : Int) + 1) (by omega) (by omega), show (mu : Int) + (x : Int) = ((mu + x : Nat) : Int) by omega, show (i : Int) + 1 = ((i + 1 : Nat) : Int) by omega]
      exact ih (i + 1) f (mu + x) (by omega) (by omega) (by omega)
theorem t_cm {x y : Nat} (hx : x ≤ 420) (hy : 1 ≤ y ∧ y ≤ 7) (h : IH) : rn (d + 1) 146 [iI (x : Int), iI (y : Int)] h = some (oI (cmF x y (y - 1) x : Nat), h) := by
  have i0 := l_cmT (d := d) hx hy h (y - 1) 1 (999998 - (y - 1)) x (by omega) (by omega) (by omega)
  rw [show 999998 - (y - 1) + (y - 1) + 1 = 999999 by omega] at i0
  have i0' : lp d 146 999999 4 [some (iI (x : Int)), some (iI (y : Int)), some (iI (x : Int)), some (iI 1)] [] h = _ := i0
  rw [r_T_commonMultiple, e_T_commonMultiple, i0']
theorem l_gcM (h : IH) : ∀ (q x y f : Nat), y < q → x ≤ 420 → y ≤ 420 → lp d 247 (f + q) 4 [none, none, some (iI (x : Int)), some (iI (y : Int)), none] [] h = some (oI (gcF q x y : Nat), h) := by
  intro q
  induction q with
  | zero =>
    intro x y f hy
    omega
  | succ q ih =>
    intro x y f hy hx hy2
    rw [show f + (q + 1) = (f + q) + 1 by omega, e_M_divisor_4]
    show _ = some (oI ((if y = 0 then x else gcF q y (x % y) : Nat) : Int), h)
    by_cases z : y = 0
    · rw [if_pos (by omega), if_pos z]
    · have hm := Nat.mod_lt x (show y > 0 by omega)
      have e : ((x % y : Nat) : Int) = (x : Int) % (y : Int) := Int.natCast_emod x y
      rw [if_neg (by omega), if_neg z, xmI_ok (by omega), Int.tmod_eq_emod_of_nonneg (by omega), ← e, wr_id (by omega) (by omega)]
      exact ih y (x % y) f (by omega) (by omega) (by omega)
theorem m_gc {x y : Nat} (hx : x ≤ 420) (hy : y ≤ 7) (h : IH) : rn (d + 1) 247 [iI (x : Int), iI (y : Int)] h = some (oI (gcF 9 x y : Nat), h) := by
  have i0 := l_gcM (d := d) h 9 x y 999990 (by omega) hx (by omega)
  rw [r_M_divisor, e_M_divisor]
  exact i0
theorem l_rpT (s : ShT h) (o : NowOk h I K LW) (en : K 183 = (n : Int)) : ∀ (q t f : Nat), t + q = n → lp (d + 1) 120 (f + q + 1) 4 [some (iR (some 3)), some (iI (rpN (atN K) t : Nat)), some (iI (t : Int))] [] (st h I J) = some (oI (rpN (atN K) n : Nat), st h I J) := by
  have hn := o.2.2.1.1
  have e4 : I 4 0 = (n : Int) := o.2.1.1.trans en
  intro q
  induction q with
  | zero =>
    intro t f ht
    rw [Nat.add_zero, e_T_repeated_4, ygR (aT_3 s) (aR_3_0 s), xB_s, ygIv (aT_4 s) e4, if_neg (by omega), show t = n by omega]
  | succ q ih =>
    intro t f ht
    have h1 := rpN_ok (A := atN K) t
    have h2 := le_420 h1.1 h1.2
    have h3 := rgF_b (A := atN K) (t := t) 6 1
    rw [show f + (q + 1) + 1 = (f + q + 1) + 1 by omega, e_T_repeated_4, ygR (aT_3 s) (aR_3_0 s), xB_s, ygIv (aT_4 s) e4, if_pos (by omega), yck (aT_3 s), t_ring s o en (by omega), kI_o, t_cm h2 (by omega), kI_o, wr_id (x := (t : Int) + 1) (by omega) (by omega), show (t : Int) + 1 = ((t + 1 : Nat) : Int) by omega]
    exact ih (t + 1) f (by omega)
theorem l_rpM (m : ShM h 88) (k : KOk K) (e90 : I 90 = K) (en : K 183 = (n : Int)) : ∀ (q t f : Nat), t + q = n → lp (d + 2) 248 (f + q + 1) 4 [some (iR (some 88)), some (iI (rpN (atN K) t : Nat)), some (iI (t : Int))] [] (st h I J) = some (oI (rpN (atN K) n : Nat), st h I J) := by
  have hn := k.1
  intro q
  induction q with
  | zero =>
    intro t f ht
    rw [Nat.add_zero, e_M_repeated_4, yck (bT_88 m), m_many m (x := (n : Int)) (by rw [e90, en]), kI_o, if_neg (by omega), show t = n by omega]
  | succ q ih =>
    intro t f ht
    have h1 := rpN_ok (A := atN K) t
    have h2 := le_420 h1.1 h1.2
    have h3 := rgF_b (A := atN K) (t := t) 6 1
    obtain ⟨c1, -, -, c4, c5⟩ := cm_is (x := rpN (atN K) t) (y := rgF (atN K) t 6 1) (by omega) (by omega)
    have h4 := rpN_ok (A := atN K) (t + 1)
    have h5 := le_420 h4.1 h4.2
    have er : rpN (atN K) (t + 1) = cmF (rpN (atN K) t) (rgF (atN K) t 6 1) (rgF (atN K) t 6 1 - 1) (rpN (atN K) t) := rfl
    rw [c1] at er
    have hd := Nat.div_le_self (rpN (atN K) t) (gcF 9 (rpN (atN K) t) (rgF (atN K) t 6 1))
    obtain ⟨D, eD⟩ : ∃ D : Nat, D = rpN (atN K) t / gcF 9 (rpN (atN K) t) (rgF (atN K) t 6 1) := ⟨_, rfl⟩
    have e1 : Int.tdiv ((rpN (atN K) t : Nat) : Int) ((gcF 9 (rpN (atN K) t) (rgF (atN K) t 6 1) : Nat) : Int) = (D : Int) := by
      rw [Int.tdiv_eq_ediv_of_nonneg (by omega), eD, Int.natCast_ediv]
    have e2 : (D : Int) * ((rgF (atN K) t 6 1 : Nat) : Int) = ((rpN (atN K) (t + 1) : Nat) : Int) := by
      rw [er, ← eD, Int.natCast_mul]
    rw [← eD] at hd
    rw [show f + (q + 1) + 1 = (f + q + 1) + 1 by omega, e_M_repeated_4, yck (bT_88 m), m_many m (x := (n : Int)) (by rw [e90, en]), kI_o, if_pos (by omega), yck (bT_88 m), m_ring m k e90 en (by omega), kI_o, m_gc h2 (by omega), kI_o, xdI_ok (by omega), e1, wr_id (x := (D : Int)) (by omega) (by omega), yck (bT_88 m), m_ring m k e90 en (by omega), kI_o, e2, wr_id (x := ((rpN (atN K) (t + 1) : Nat) : Int)) (by omega) (by omega), wr_id (x := (t : Int) + 1) (by omega) (by omega), show (t : Int) + 1 = ((t + 1 : Nat) : Int) by omega]
    exact ih (t + 1) f (by omega)
theorem C_repeated (v : Inv L xs k h I) (hk : k < 1000) : Cal L xs k h I J 120 248 [] := by
  obtain ⟨LW, o⟩ := v.now
  have s := v.t
  have m := v.m
  have kk := o.2.2.1
  have hn := kk.1
  have hL := lvOf_ok kk o.2.2.2.1
  have E : ∀ I1, TnQ I1 I → I1 90 = I 90 := fun I1 t => t 90 (by omega) (by omega) (by omega) (by omega)
  obtain ⟨n, en⟩ : ∃ n : Nat, I 90 183 = (n : Int) := ⟨(I 90 183).toNat, by omega⟩
  refine Cal.q v hk (rpN (atN (I 90)) n : Nat) (fun d => ⟨I, J, TnQ.rf I, ?_⟩) fun d I1 J1 t => ⟨I1, J1, MnQ.rf I1, ?_⟩
  · have i0 := l_rpT (d := d + 98) (J := J) s o en n 0 (999998 - n) (by omega)
    rw [show 999998 - n + n + 1 = 999999 by omega] at i0
    have i0' : lp (d + 99) 120 999999 4 [some (iR (some 3)), some (iI 1), some (iI 0)] [] (st h I J) = _ := i0
    rw [r_T_repeated, e_T_repeated, i0']
  · have e90 := E I1 t
    have i0 := l_rpM (d := d + 97) (J := J1) m kk e90 en n 0 (999998 - n) (by omega)
    rw [show 999998 - n + n + 1 = 999999 by omega] at i0
    have i0' : lp (d + 99) 248 999999 4 [some (iR (some 88)), some (iI 1), some (iI 0)] [] (st h I1 J1) = _ := i0
    rw [r_M_repeated, e_M_repeated, i0']
/-- the rings counted: the class sees, the reference looks for the lowest -/
theorem l_rc34 (s : ShT h) (o : NowOk h I K LW) (en : K 183 = (n : Int)) {c : Nat} (hc : c < n) {x : Nat} : ∀ (q i f S : Nat), i + q = n → S < 2 ^ n → (∀ u, u < n → (S.testBit u = true ↔ ∃ t j, (t < c ∨ (t = c ∧ j < i)) ∧ itr (atN K) j t = u)) → ∃ S' : Nat, S' < 2 ^ n ∧ (∀ u, u < n → (S'.testBit u = true ↔ ∃ t j, (t < c ∨ (t = c ∧ j < n)) ∧ itr (atN K) j t = u)) ∧ lp d 145 (f + q + 1) 34 [some (iR (some 3)), some (iI (S : Int)), some (iI (x : Int)), some (iI (c : Int)), some (iI (itr (atN K) i c : Nat)), some (iI (i : Int))] [] (st h I J) = lp d 145 f 6 [some (iR (some 3)), some (iI (S' : Int)), some (iI (x : Int)), some (iI ((c + 1 : Nat) : Int)), none, none] [] (st h I J) := by
  have hn := o.2.2.1.1
  have e4 : I 4 0 = (n : Int) := o.2.1.1.trans en
  intro q
  induction q with
  | zero =>
    intro i f S hi hS hB
    have : i = n := by omega
    subst this
    refine ⟨S, hS, hB, ?_⟩
    rw [Nat.add_zero, e_T_ringCount_34, ygR (aT_3 s) (aR_3_0 s), xB_s, ygIv (aT_4 s) e4, if_neg (by omega), wr_id (x := (c : Int) + 1) (by omega) (by omega)]
    rfl
  | succ q ih =>
    intro i f S hi hS hB
    have hlt := itr_lt (atN_lt o.2.2.1 en) hc i
    have hmk := maskN (n := n) (by omega) (u := S) hS
    have hbI := bitI (u := S) (s := itr (atN K) i c) (Nat.lt_of_lt_of_le hS (pw128 (by omega))) (by omega)
    obtain ⟨S', a1, a2, a3⟩ := ih (i + 1) f (S ||| 2 ^ itr (atN K) i c) (by omega) (hmk.2.2 _ hlt) (fun u hu => by
      rw [Nat.testBit_or, Nat.testBit_two_pow, Bool.or_eq_true, decide_eq_true_eq, hB u hu]
      constructor
      · rintro (⟨t, j, e1, e2⟩ | e)
        · exact ⟨t, j, by omega, e2⟩
        · exact ⟨c, i, Or.inr ⟨rfl, by omega⟩, e⟩
      · rintro ⟨t, j, e1, e2⟩
        by_cases z : t = c ∧ j = i
        · exact Or.inr (by rw [← e2, z.1, z.2])
        · exact Or.inl ⟨t, j, by omega, e2⟩)
    refine ⟨S', a1, a2, ?_⟩
    rw [itr_s] at a3
    rw [show f + (q + 1) + 1 = (f + q + 1) + 1 by omega, e_T_ringCount_34, ygR (aT_3 s) (aR_3_0 s), xB_s, ygIv (aT_4 s) e4, if_pos (by omega), ygR (aT_3 s) (aR_3_0 s), xB_s, ygR (aT_4 s) (aR_4_2 s), xB_s, yaIv (i := itr (atN K) i c) (aT_6 s) (aL_6 s) rfl (by omega) (t_at o en hlt), hbI.1, wr_id (x := (i : Int) + 1) (by omega) (by omega), show (i : Int) + 1 = ((i + 1 : Nat) : Int) by omega, a3]
theorem l_rc6 (s : ShT h) (o : NowOk h I K LW) (en : K 183 = (n : Int)) : ∀ (q c f S : Nat), c + q = n → S < 2 ^ n → (∀ u, u < n → (S.testBit u = true ↔ ∃ t j, t < c ∧ itr (atN K) j t = u)) → lp d 145 (f + 10 * q + 1) 6 [some (iR (some 3)), some (iI (S : Int)), some (iI (lowC (atN K) c : Nat)), some (iI (c : Int)), none, none] [] (st h I J) = some (oI (lowC (atN K) n : Nat), st h I J) := by
  have hn := o.2.2.1.1
  have e4 : I 4 0 = (n : Int) := o.2.1.1.trans en
  intro q
  induction q with
  | zero =>
    intro c f S hc hS hB
    rw [show f + 10 * 0 + 1 = f + 1 by omega, e_T_ringCount_6, ygR (aT_3 s) (aR_3_0 s), xB_s, ygIv (aT_4 s) e4, if_neg (by omega), show c = n by omega]
  | succ q ih =>
    intro c f S hc hS hB
    have hS7 := Nat.lt_of_lt_of_le hS (pw128 (k := n) (by omega))
    have hl := lowC_le (A := atN K) c
    have key : ∀ x : Nat, ∃ S' : Nat, S' < 2 ^ n ∧ (∀ u, u < n → (S'.testBit u = true ↔ ∃ t j, t < c + 1 ∧ itr (atN K) j t = u)) ∧ lp d 145 (f + 10 * (q + 1)) 34 [some (iR (some 3)), some (iI (S : Int)), some (iI (x : Int)), some (iI (c : Int)), some (iI (c : Int)), some (iI 0)] [] (st h I J) = lp d 145 (f + 10 * q + 1 + (8 - n)) 6 [some (iR (some 3)), some (iI (S' : Int)), some (iI (x : Int)), some (iI ((c + 1 : Nat) : Int)), none, none] [] (st h I J) := fun x => by
      obtain ⟨S', a1, a2, a3⟩ := l_rc34 (d := d) (J := J) s o en (c := c) (by omega) (x := x) n 0 (f + 10 * q + 1 + (8 - n)) S (by omega) hS (fun u hu => by
        rw [hB u hu]
        constructor
        · rintro ⟨t, j, e1, e2⟩
          exact ⟨t, j, Or.inl e1, e2⟩
        · rintro ⟨t, j, e1, e2⟩
          exact ⟨t, j, by omega, e2⟩)
      rw [show f + 10 * q + 1 + (8 - n) + n + 1 = f + 10 * (q + 1) by omega] at a3
      refine ⟨S', a1, fun u hu => ?_, a3⟩
      rw [a2 u hu]
      constructor
      · rintro ⟨t, j, e1, e2⟩
        exact ⟨t, j, by omega, e2⟩
      · rintro ⟨t, j, e1, e2⟩
        by_cases z : t = c
        · obtain ⟨p, p1, p2, p3⟩ := itr_per (atN_lt o.2.2.1 en) (atN_inj o.2.2.1 en) (t := t) (by omega)
          refine ⟨t, j % p, Or.inr ⟨z, ?_⟩, by rw [← itr_mod p3]; exact e2⟩
          have := Nat.mod_lt j (show p > 0 by omega)
          omega
        · exact ⟨t, j, Or.inl (by omega), e2⟩
    have hbit := shrI hS7 (show c < 7 by omega)
    have hlow : S.testBit c = true ↔ ¬ lowP (atN K) c := by
      rw [hB c (by omega)]
      unfold lowP
      exact Classical.not_not.symm
    rw [e_T_ringCount_6, ygR (aT_3 s) (aR_3_0 s), xB_s, ygIv (aT_4 s) e4, if_pos (by omega), hbit]
    by_cases z : S.testBit c = true
    · have zl := hlow.1 z
      obtain ⟨S', a1, a2, a3⟩ := key (lowC (atN K) c)
      have i0 := ih (c + 1) (f + (8 - n)) S' (by omega) a1 a2
      rw [show f + (8 - n) + 10 * q + 1 = f + 10 * q + 1 + (8 - n) by omega, show lowC (atN K) (c + 1) = lowC (atN K) c by
        show lowC (atN K) c + @ite _ (lowP (atN K) c) (Classical.propDecidable _) 1 0 = _
        rw [if_neg zl, Nat.add_zero]] at i0
      rw [if_pos z, if_neg (by omega), a3, i0]
    · have zl : lowP (atN K) c := Classical.byContradiction fun w => z (hlow.2 w)
      obtain ⟨S', a1, a2, a3⟩ := key (lowC (atN K) c + 1)
      have i0 := ih (c + 1) (f + (8 - n)) S' (by omega) a1 a2
      rw [show f + (8 - n) + 10 * q + 1 = f + 10 * q + 1 + (8 - n) by omega, show lowC (atN K) (c + 1) = lowC (atN K) c + 1 by
        show lowC (atN K) c + @ite _ (lowP (atN K) c) (Classical.propDecidable _) 1 0 = _
        rw [if_pos zl]] at i0
      rw [if_neg z, if_pos rfl, wr_id (x := ((lowC (atN K) c : Nat) : Int) + 1) (by omega) (by omega), show ((lowC (atN K) c : Nat) : Int) + 1 = ((lowC (atN K) c + 1 : Nat) : Int) by omega, a3, i0]
theorem t_rings (s : ShT h) (o : NowOk h I K LW) (en : K 183 = (n : Int)) : rn (d + 1) 145 [iR (some 3)] (st h I J) = some (oI (lowC (atN K) n : Nat), st h I J) := by
  have hn := o.2.2.1.1
  have i0 := l_rc6 (d := d) (J := J) s o en n 0 (999998 - 10 * n) 0 (by omega) (Nat.two_pow_pos n) (fun u hu => by
    rw [Nat.zero_testBit]
    constructor
    · intro z
      cases z
    · rintro ⟨t, j, e1, e2⟩
      omega)
  rw [show 999998 - 10 * n + 10 * n + 1 = 999999 by omega] at i0
  have i0' : lp d 145 999999 6 [some (iR (some 3)), some (iI 0), some (iI 0), some (iI 0), none, none] [] (st h I J) = _ := i0
  rw [r_T_ringCount, e_T_ringCount, i0']
theorem l_loM (m : ShM h 88) (k : KOk K) (e90 : I 90 = K) (en : K 183 = (n : Int)) {t p : Nat} (ht : t < n) (hp1 : 1 ≤ p) (hp : itr (atN K) p t = t) : ∀ (q l f : Nat), l + q = p → 1 ≤ l → (∀ j, 1 ≤ j → j < l → t < itr (atN K) j t) → lp (d + 1) 245 (f + q + 1) 6 [some (iR (some 88)), some (iI (t : Int)), some (iI (itr (atN K) l t : Nat))] [] (st h I J) = some (oI (@ite _ (lowP (atN K) t) (Classical.propDecidable _) 1 0), st h I J) := by
  have hn := k.1
  have fin : ∀ (l f : Nat), 1 ≤ l → l ≤ p → (∀ j, 1 ≤ j → j < l → t < itr (atN K) j t) → itr (atN K) l t ≤ t → lp (d + 1) 245 (f + 1) 6 [some (iR (some 88)), some (iI (t : Int)), some (iI (itr (atN K) l t : Nat))] [] (st h I J) = some (oI (@ite _ (lowP (atN K) t) (Classical.propDecidable _) 1 0), st h I J) := fun l f h1 h2 hj hle => by
    rw [e_M_isLowest_6, if_pos (by omega)]
    by_cases z : itr (atN K) l t = t
    · have hl : lowP (atN K) t := by
        rintro ⟨u, i, u1, u2⟩
        obtain ⟨pu, q1, q2, q3⟩ := itr_per (atN_lt k en) (atN_inj k en) (t := u) (by omega)
        obtain ⟨j, e⟩ := itr_back q1 q3 u2
        rw [itr_mod z j] at e
        have hm := Nat.mod_lt j (show l > 0 by omega)
        by_cases y : j % l = 0
        · rw [y] at e
          have e' : t = u := e
          omega
        · have := hj (j % l) (by omega) hm
          omega
      rw [if_pos (by omega), if_pos hl, xZ_1]
    · have hl : ¬ lowP (atN K) t := fun w => by
        obtain ⟨j, e⟩ := itr_back hp1 hp (i := l) (s := itr (atN K) l t) rfl
        exact w ⟨itr (atN K) l t, j, by omega, e⟩
      rw [if_neg (by omega), if_neg hl, xZ_0]
  intro q
  induction q with
  | zero =>
    intro l f hl h1 hj
    have : l = p := by omega
    subst this
    rw [Nat.add_zero]
    exact fin l f h1 (Nat.le_refl _) hj (by omega)
  | succ q ih =>
    intro l f hl h1 hj
    by_cases z : itr (atN K) l t ≤ t
    · exact fin l (f + (q + 1)) h1 (by omega) hj z
    · have hlt := itr_lt (atN_lt k en) ht l
      have i0 := ih (l + 1) f (by omega) (by omega) (fun j j1 j2 => by
        by_cases y : j = l
        · rw [y]
          omega
        · exact hj j j1 (by omega))
      rw [itr_s] at i0
      rw [show f + (q + 1) + 1 = (f + q + 1) + 1 by omega, e_M_isLowest_6, if_neg (by omega), yck (bT_88 m), m_where m k e90 (by omega), kI_o, atN_i k en hlt, i0]
theorem m_lowest (m : ShM h 88) (k : KOk K) (e90 : I 90 = K) (en : K 183 = (n : Int)) {t : Nat} (ht : t < n) : rn (d + 2) 245 [iR (some 88), iI (t : Int)] (st h I J) = some (oI (@ite _ (lowP (atN K) t) (Classical.propDecidable _) 1 0), st h I J) := by
  have hn := k.1
  obtain ⟨p, p1, p2, p3⟩ := itr_per (atN_lt k en) (atN_inj k en) ht
  have i0 := l_loM (d := d) (J := J) m k e90 en ht p1 p3 (p - 1) 1 (999998 - (p - 1)) (by omega) (by omega) (fun j j1 j2 => by omega)
  rw [show 999998 - (p - 1) + (p - 1) + 1 = 999999 by omega] at i0
  have i0' : lp (d + 1) 245 999999 6 [some (iR (some 88)), some (iI (t : Int)), some (iI (atN K t : Nat))] [] (st h I J) = _ := i0
  rw [r_M_isLowest, e_M_isLowest, yck (bT_88 m), m_where m k e90 (by omega), kI_o, atN_i k en ht, i0']
theorem l_rcM (m : ShM h 88) (k : KOk K) (e90 : I 90 = K) (en : K 183 = (n : Int)) : ∀ (q c f : Nat), c + q = n → lp (d + 2) 246 (f + q + 1) 27 [some (iR (some 88)), none, some (iI (lowC (atN K) c : Nat)), some (iI (c : Int))] [] (st h I J) = some (oI (lowC (atN K) n : Nat), st h I J) := by
  have hn := k.1
  intro q
  induction q with
  | zero =>
    intro c f hc
    rw [Nat.add_zero, e_M_rings_27, yck (bT_88 m), m_many m (x := (n : Int)) (by rw [e90, en]), kI_o, if_neg (by omega), show c = n by omega]
  | succ q ih =>
    intro c f hc
    have hl := lowC_le (A := atN K) c
    have i0 := ih (c + 1) f (by omega)
    have el : lowC (atN K) (c + 1) = lowC (atN K) c + @ite _ (lowP (atN K) c) (Classical.propDecidable _) 1 0 := rfl
    rw [show f + (q + 1) + 1 = (f + q + 1) + 1 by omega, e_M_rings_27, yck (bT_88 m), m_many m (x := (n : Int)) (by rw [e90, en]), kI_o, if_pos (by omega), yck (bT_88 m), m_lowest m k e90 en (by omega), kI_o, wr_id (x := ((lowC (atN K) c : Nat) : Int) + 0) (by omega) (by omega), wr_id (x := ((lowC (atN K) c : Nat) : Int) + 1) (by omega) (by omega), Int.add_zero, wr_id (x := (c : Int) + 1) (by omega) (by omega), show (c : Int) + 1 = ((c + 1 : Nat) : Int) by omega]
    rw [el] at i0
    by_cases z : lowP (atN K) c
    · rw [if_pos z] at i0 ⊢
      rw [if_neg (by omega), show ((lowC (atN K) c : Nat) : Int) + 1 = ((lowC (atN K) c + 1 : Nat) : Int) by omega, i0]
    · rw [if_neg z] at i0 ⊢
      rw [if_pos rfl]
      exact i0
theorem C_rings (v : Inv L xs k h I) (hk : k < 1000) (x : Int) : Cal L xs k h I J 119 246 [iI x] := by
  obtain ⟨LW, o⟩ := v.now
  have s := v.t
  have m := v.m
  have kk := o.2.2.1
  have hn := kk.1
  have hL := lvOf_ok kk o.2.2.2.1
  have E : ∀ I1, TnQ I1 I → I1 90 = I 90 := fun I1 t => t 90 (by omega) (by omega) (by omega) (by omega)
  obtain ⟨n, en⟩ : ∃ n : Nat, I 90 183 = (n : Int) := ⟨(I 90 183).toNat, by omega⟩
  by_cases c1 : x = -1
  · refine Cal.q v hk (lowC (atN (I 90)) n : Nat) (fun d => ⟨I, J, TnQ.rf I, ?_⟩) fun d I1 J1 t => ⟨I1, J1, MnQ.rf I1, ?_⟩
    · rw [r_T_rings, e_T_rings, if_pos c1, if_pos c1, yck (aT_3 s), t_rings (d := d + 98) s o en, kI_o]
    · have e90 := E I1 t
      have i0 := l_rcM (d := d + 97) (J := J1) m kk e90 en n 0 (999998 - n) (by omega)
      rw [show 999998 - n + n + 1 = 999999 by omega] at i0
      have i0' : lp (d + 99) 246 999999 27 [some (iR (some 88)), none, some (iI 0), some (iI 0)] [] (st h I1 J1) = _ := i0
      rw [r_M_rings, e_M_rings, if_pos c1, i0']
  by_cases c2 : 0 ≤ x ∧ x < I 90 183
  · obtain ⟨x, rfl⟩ : ∃ x' : Nat, x = (x' : Int) := ⟨x.toNat, by omega⟩
    refine Cal.q v hk (rgF (atN (I 90)) x 6 1 : Nat) (fun d => ⟨I, J, TnQ.rf I, ?_⟩) fun d I1 J1 t => ⟨I1, J1, MnQ.rf I1, ?_⟩
    · rw [r_T_rings, e_T_rings, if_neg c1, ygR (aT_3 s) (aR_3_0 s), xB_s, yck (aT_4 s), t_isT (d := d + 98) o x, kI_o, if_pos c2, if_neg (by omega), if_neg c1, yck (aT_3 s), t_ring (d := d + 98) s o en (by omega), kI_o]
    · have e90 := E I1 t
      rw [r_M_rings, e_M_rings, if_neg c1, yck (bT_88 m), m_isT (d := d + 97) m x e90 hn, kI_o, if_pos c2, if_neg (by omega), yck (bT_88 m), m_ring (d := d + 97) m kk e90 en (by omega), kI_o]
  · refine Cal.q v hk (-1) (fun d => ⟨I, J, TnQ.rf I, ?_⟩) fun d I1 J1 t => ⟨I1, J1, MnQ.rf I1, ?_⟩
    · rw [r_T_rings, e_T_rings, if_neg c1, ygR (aT_3 s) (aR_3_0 s), xB_s, yck (aT_4 s), t_isT (d := d + 98) o x, kI_o, if_neg c2, if_pos rfl]
    · have e90 := E I1 t
      rw [r_M_rings, e_M_rings, if_neg c1, yck (bT_88 m), m_isT (d := d + 97) m x e90 hn, kI_o, if_neg c2, if_pos rfl]
end P98j
