/-! The market (by program, wip/whole/gen98k.py) -/
theorem out_ok : ((List.range 128).all fun u => (List.range 128).all fun r => decide (iand (u : Int) (ixor (r : Int) (-1)) = ((u ^^^ (u &&& r) : Nat) : Int)) && (decide (u &&& r = 0) || decide (popN (u ^^^ (u &&& r)) < popN u))) = true := by decide +kernel
theorem outI {u r : Nat} (hu : u < 128) (hr : r < 128) : iand (u : Int) (ixor (r : Int) (-1)) = ((u ^^^ (u &&& r) : Nat) : Int) ∧ (u &&& r = 0 ∨ popN (u ^^^ (u &&& r)) < popN u) := by
  have h1 := List.all_eq_true.mp (List.all_eq_true.mp out_ok u (List.mem_range.mpr hu)) r (List.mem_range.mpr hr)
  rw [Bool.and_eq_true, Bool.or_eq_true, decide_eq_true_eq, decide_eq_true_eq, decide_eq_true_eq] at h1
  exact h1
theorem pop0_ok : ((List.range 128).all fun u => (List.range 7).all fun t => decide (popN u ≠ 0) || decide (u.testBit t = false)) = true := by decide +kernel
theorem pop0 {u t : Nat} (hu : u < 128) (ht : t < 7) (h : popN u = 0) : u.testBit t = false := by
  have h1 := List.all_eq_true.mp (List.all_eq_true.mp pop0_ok u (List.mem_range.mpr hu)) t (List.mem_range.mpr ht)
  rw [Bool.or_eq_true, decide_eq_true_eq, decide_eq_true_eq] at h1
  rcases h1 with w | w
  · exact absurd h w
  · exact w
/-- the Sunday c is offered to t by one of S -/
noncomputable def ofB (K : Nat → Int) (L : LwV) (S t c : Nat) : Bool := S.testBit (atN K c) && decide (haveK K L (t : Int) (c : Int) = 1)
noncomputable def wsF (K : Nat → Int) (L : LwV) (S t : Nat) : Nat → Int × Int
  | 0 => (-1, -1)
  | c + 1 => if ofB K L S t c = true ∧ (wsF K L S t c).2 < likeK K L (t : Int) (c : Int) then ((c : Int), likeK K L (t : Int) (c : Int)) else wsF K L S t c
noncomputable def wsI (K : Nat → Int) (L : LwV) (n S t : Nat) : Int := (wsF K L S t n).1
/-- who has what is asked for -/
noncomputable def wsA (K : Nat → Int) (L : LwV) (n S t : Nat) : Nat := atN K (wsI K L n S t).toNat
noncomputable def isRg (K : Nat → Int) (L : LwV) (n S t : Nat) : Prop := ∃ j, 1 ≤ j ∧ j ≤ n ∧ itr (wsA K L n S) j t = t
noncomputable def rgB (K : Nat → Int) (L : LwV) (n S t : Nat) : Bool := S.testBit t && @decide (isRg K L n S t) (Classical.propDecidable _)
noncomputable def rgS (K : Nat → Int) (L : LwV) (n S : Nat) : Nat := mkB (rgB K L n S) n
noncomputable def nxS (K : Nat → Int) (L : LwV) (n S : Nat) : Nat := S ^^^ (S &&& rgS K L n S)
noncomputable def nxV (K : Nat → Int) (L : LwV) (n S : Nat) (V : Nat → Int) : Nat → Int := fun t => if S.testBit t = true then wsI K L n S t else V t
noncomputable def mkt (K : Nat → Int) (L : LwV) (n t : Nat) : Nat → Nat → (Nat → Int) → Int
  | 0, _, V => V t
  | r + 1, S, V => if S.testBit t = true then mkt K L n t r (nxS K L n S) (nxV K L n S V) else V t
section P98k
variable {h : IH} {I I0 I1 I2 I' J : Nat → Nat → Int} {k L d n : Nat} {xs : Nat → Int32} {K K' : Nat → Int} {LW : Nat → Nat × (Nat → Cls)} {LV : LwV}
theorem wsF_s (S t c : Nat) : wsF K LV S t (c + 1) = if ofB K LV S t c = true ∧ (wsF K LV S t c).2 < likeK K LV (t : Int) (c : Int) then ((c : Int), likeK K LV (t : Int) (c : Int)) else wsF K LV S t c := rfl
theorem wsF_ok (k : KOk K) (en : K 183 = (n : Int)) {S t : Nat} : ∀ c, c ≤ n → ((wsF K LV S t c).1 = -1 ∧ (wsF K LV S t c).2 = -1 ∧ ∀ u, u < c → ¬ ofB K LV S t u = true) ∨ ∃ u, u < c ∧ (wsF K LV S t c).1 = (u : Int) ∧ ofB K LV S t u = true ∧ 0 ≤ (wsF K LV S t c).2 ∧ (wsF K LV S t c).2 ≤ 99
  | 0, _ => Or.inl ⟨rfl, rfl, fun u hu => absurd hu (by omega)⟩
  | c + 1, hc => by
    have hn := k.1
    have h2 := likeK_in (L := LV) k (t := (t : Int)) (s := (c : Int)) (by omega)
    rw [wsF_s]
    by_cases z : ofB K LV S t c = true ∧ (wsF K LV S t c).2 < likeK K LV (t : Int) (c : Int)
    · rw [if_pos z]
      exact Or.inr ⟨c, by omega, rfl, z.1, h2.1, h2.2⟩
    · rw [if_neg z]
      rcases wsF_ok k en (S := S) (t := t) c (by omega) with ⟨a1, a2, a3⟩ | ⟨u, a1, a2, a3⟩
      · refine Or.inl ⟨a1, a2, fun u hu => ?_⟩
        by_cases y : u = c
        · rw [y]
          intro w
          exact z ⟨w, by rw [a2]; omega⟩
        · exact a3 u (by omega)
      · exact Or.inr ⟨u, by omega, a2, a3⟩
theorem own_of (k : KOk K) (en : K 183 = (n : Int)) {S t : Nat} (ht : t < n) (hS : S.testBit t = true) : ofB K LV S t (K t).toNat = true := by
  have hb := k.2.1.1 t (by omega)
  have e : atK K (K t) = (t : Int) := atK_of k (by omega)
  have e2 : (((K t).toNat : Nat) : Int) = K t := by omega
  unfold ofB atN haveK
  rw [e2, e, Int.toNat_natCast, hS, if_pos rfl]
  rfl
theorem wsI_ok (k : KOk K) (en : K 183 = (n : Int)) {S t : Nat} (ht : t < n) (hS : S.testBit t = true) : (0 ≤ wsI K LV n S t ∧ wsI K LV n S t < n) ∧ S.testBit (wsA K LV n S t) = true ∧ wsA K LV n S t < n := by
  have hb := k.2.1.1 t (by omega)
  rcases wsF_ok (LV := LV) k en (S := S) (t := t) n (Nat.le_refl n) with ⟨-, -, a3⟩ | ⟨u, a1, a2, a3, -⟩
  · exact absurd (own_of k en ht hS) (a3 (K t).toNat (by omega))
  · have e : wsI K LV n S t = (u : Int) := a2
    have e2 : wsA K LV n S t = atN K u := by
      unfold wsA
      rw [e, Int.toNat_natCast]
    rw [e2, e]
    exact ⟨by omega, (Bool.and_eq_true_iff.mp a3).1, atN_lt k en u a1⟩
theorem itr_S (k : KOk K) (en : K 183 = (n : Int)) {S t : Nat} (ht : t < n) (hS : S.testBit t = true) : ∀ j, S.testBit (itr (wsA K LV n S) j t) = true ∧ itr (wsA K LV n S) j t < n
  | 0 => ⟨hS, ht⟩
  | j + 1 => by
    have := itr_S k en ht hS j
    rw [itr_s]
    exact (wsI_ok k en this.2 this.1).2
theorem rg_ex (k : KOk K) (en : K 183 = (n : Int)) {S t : Nat} (ht : t < n) (hS : S.testBit t = true) : ∃ u, u < n ∧ rgB K LV n S u = true := by
  obtain ⟨i, j, h1, h2, h3⟩ := pig n (fun i => itr (wsA K LV n S) i t) fun i _ => (itr_S k en ht hS i).2
  have h4 := itr_S (LV := LV) k en ht hS i
  have e : itr (wsA K LV n S) j t = itr (wsA K LV n S) (j - i) (itr (wsA K LV n S) i t) := by
    rw [← itr_add, show i + (j - i) = j by omega]
  have h3' : itr (wsA K LV n S) i t = itr (wsA K LV n S) j t := h3
  rw [e] at h3'
  refine ⟨itr (wsA K LV n S) i t, h4.2, ?_⟩
  unfold rgB
  rw [h4.1, Bool.true_and]
  exact @decide_eq_true _ (Classical.propDecidable _) ⟨j - i, by omega, by omega, h3'.symm⟩
/-- a ring of one more step is a ring -/
theorem rg_one (k : KOk K) (en : K 183 = (n : Int)) {S t : Nat} (ht : t < n) (hS : S.testBit t = true) (h : itr (wsA K LV n S) (n + 1) t = t) : isRg K LV n S t := by
  obtain ⟨i, j, h1, h2, h3⟩ := pig n (fun i => itr (wsA K LV n S) i t) fun i _ => (itr_S k en ht hS i).2
  refine ⟨j - i, by omega, by omega, ?_⟩
  have e1 : itr (wsA K LV n S) (i + (n + 1 - i)) t = itr (wsA K LV n S) (n + 1 - i) (itr (wsA K LV n S) i t) := itr_add _ _ _
  have e2 : itr (wsA K LV n S) (j + (n + 1 - i)) t = itr (wsA K LV n S) (n + 1 - i) (itr (wsA K LV n S) j t) := itr_add _ _ _
  have h3' : itr (wsA K LV n S) i t = itr (wsA K LV n S) j t := h3
  rw [← h3', ← e1, show i + (n + 1 - i) = n + 1 by omega, h, show j + (n + 1 - i) = n + 1 + (j - i) by omega, itr_add, h] at e2
  exact e2
theorem nxS_lt (hn : n ≤ 7) {S : Nat} (hS : S < 2 ^ n) : nxS K LV n S < 2 ^ n := Nat.xor_lt_two_pow hS (Nat.and_lt_two_pow S (mkB_lt _ hn))
theorem nxS_bit (S t : Nat) (ht : t < n) : (nxS K LV n S).testBit t = (S.testBit t && !(rgB K LV n S t)) := by
  unfold nxS rgS
  rw [Nat.testBit_xor, Nat.testBit_and, mkB_bit, decide_eq_true ht, Bool.true_and]
  unfold rgB
  cases S.testBit t <;> cases @decide (isRg K LV n S t) (Classical.propDecidable _) <;> rfl
/-- the class -/
theorem l_wsT (s : ShT h) {I : Nat → Nat → Int} (o : NowOk h I K LW) (en : K 183 = (n : Int)) (hL : LkOk I n K LV) (hM : MyOk I n K LV n) {S t : Nat} (hS : S < 128) (ht : t < n) (hSt : S.testBit t = true) : ∀ (q c f : Nat), c + q = n → 3 * q + 1 ≤ f → lp d 39 f 9 [some (iR (some 76)), some (iR (some 4)), some (iI (t : Int)), some (iI (S : Int)), some (iI (wsF K LV S t c).1), some (iI (wsF K LV S t c).2), some (iI (c : Int)), none, none] [] (st h I J) = some (oI (wsI K LV n S t), st h I J) := by
  have hn := o.2.2.1.1
  have e4 : I 4 0 = (n : Int) := o.2.1.1.trans en
  intro q
  induction q with
  | zero =>
    intro c f hc hf
    obtain ⟨f, rfl⟩ : ∃ g, f = g + 1 := ⟨f - 1, by omega⟩
    have hw := (wsI_ok (LV := LV) o.2.2.1 en ht hSt).1
    have ec : c = n := by omega
    subst ec
    have ew : (wsF K LV S t c).1 = wsI K LV c S t := rfl
    rw [e_Pa_wishOf_9, xB_s, ygIv (aT_4 s) e4, if_neg (by omega), ew, if_neg (by omega)]
  | succ q ih =>
    intro c f hc hf
    obtain ⟨f, rfl⟩ : ∃ g, f = g + 3 := ⟨f - 3, by omega⟩
    have i0 := ih (c + 1) f (by omega) (by omega)
    have i1 := ih (c + 1) (f + 1) (by omega) (by omega)
    rw [wsF_s] at i0 i1
    have hlt := atN_lt o.2.2.1 en c (by omega)
    have b1 := shrI hS (show atN K c < 7 by omega)
    have hmy := hM t ht
    have hmlt := mayN_lt K LV t (k := n) (by omega)
    have b2 := shrI hmlt (show c < 7 by omega)
    rw [mayN_bit K LV (t := t) (s := c) (n := n) (by omega)] at b2
    have hv := hL t c ht (by omega)
    have e53 : ∀ (g : Nat) (z : Int), lp d 39 (g + 1) 53 [some (iR (some 76)), some (iR (some 4)), some (iI (t : Int)), some (iI (S : Int)), some (iI (wsF K LV S t c).1), some (iI (wsF K LV S t c).2), some (iI (c : Int)), none, none] [iI z] (st h I J) = (if z = 0 then lp d 39 g 9 [some (iR (some 76)), some (iR (some 4)), some (iI (t : Int)), some (iI (S : Int)), some (iI (wsF K LV S t c).1), some (iI (wsF K LV S t c).2), some (iI ((c + 1 : Nat) : Int)), none, none] [] (st h I J) else if likeK K LV (t : Int) (c : Int) ≤ (wsF K LV S t c).2 then lp d 39 g 9 [some (iR (some 76)), some (iR (some 4)), some (iI (t : Int)), some (iI (S : Int)), some (iI (wsF K LV S t c).1), some (iI (wsF K LV S t c).2), some (iI ((c + 1 : Nat) : Int)), none, none] [] (st h I J) else lp d 39 g 9 [some (iR (some 76)), some (iR (some 4)), some (iI (t : Int)), some (iI (S : Int)), some (iI (c : Int)), some (iI (likeK K LV (t : Int) (c : Int))), some (iI ((c + 1 : Nat) : Int)), none, none] [] (st h I J)) := fun g z => by
      rw [e_Pa_wishOf_53, ygR (aT_76 s) (aR_76_0 s), xB_s, wr_id (x := (t : Int) * 7) (by omega) (by omega), wr_id (x := (t : Int) * 7 + (c : Int)) (by omega) (by omega), yaIv (i := 7 * t + c) (aT_77 s) (aL_77 s) (by omega) (by omega) hv, wr_id (x := (c : Int) + 1) (by omega) (by omega)]
      rfl
    rw [show f + 3 = (f + 2) + 1 by omega, e_Pa_wishOf_9, xB_s, ygIv (aT_4 s) e4, if_pos (by omega), xB_s, ygR (aT_4 s) (aR_4_2 s), xB_s, yaIv (i := c) (aT_6 s) (aL_6 s) rfl (by omega) (t_at o en (by omega)), b1]
    by_cases z1 : S.testBit (atN K c) = true
    · rw [if_pos z1, if_pos rfl, ygR (aT_76 s) (aR_76_1 s), xB_s, yaIv (i := t) (aT_78 s) (aL_78 s) rfl (by omega) hmy, b2]
      by_cases z2 : haveK K LV (t : Int) (c : Int) = 1
      · have zo : ofB K LV S t c = true := by unfold ofB; rw [z1, decide_eq_true z2]; rfl
        rw [if_pos (decide_eq_true z2), if_pos rfl, e_Pa_wishOf_48, e53, if_neg (by omega)]
        by_cases z3 : likeK K LV (t : Int) (c : Int) ≤ (wsF K LV S t c).2
        · rw [if_neg (fun w => by have := w.2; omega)] at i0
          rw [if_pos z3, i0]
        · rw [if_pos ⟨zo, by omega⟩] at i0
          rw [if_neg z3]
          exact i0
      · have zo : ¬ ofB K LV S t c = true := fun w => z2 (of_decide_eq_true (Bool.and_eq_true_iff.mp w).2)
        rw [if_neg (fun w => zo w.1)] at i1
        rw [if_neg (by rw [decide_eq_false z2]; decide), e53, if_pos rfl, i1]
    · have zo : ¬ ofB K LV S t c = true := fun w => z1 (Bool.and_eq_true_iff.mp w).1
      rw [if_neg (fun w => zo w.1)] at i1
      rw [if_neg z1, if_neg (by omega), e53, if_pos rfl, i1]
theorem t_wish (s : ShT h) {I : Nat → Nat → Int} (o : NowOk h I K LW) (en : K 183 = (n : Int)) (hL : LkOk I n K LV) (hM : MyOk I n K LV n) {S t : Nat} (hS : S < 128) (ht : t < n) (hSt : S.testBit t = true) : rn (d + 1) 39 [iR (some 76), iR (some 4), iI (t : Int), iI (S : Int)] (st h I J) = some (oI (wsI K LV n S t), st h I J) := by
  have hn := o.2.2.1.1
  have i0 := l_wsT (d := d) (J := J) s o en hL hM hS ht hSt n 0 999999 (by omega) (by omega)
  rw [r_Pa_wishOf, e_Pa_wishOf]
  exact i0
theorem l_swT (s : ShT h) {I0 : Nat → Nat → Int} (o : NowOk h I0 K LW) (en : K 183 = (n : Int)) (hL : LkOk I0 n K LV) (hM : MyOk I0 n K LV n) {S : Nat} (hS : S < 128) : ∀ (q c f : Nat) (I : Nat → Nat → Int), c + q = n → (∀ b, b ≠ 82 → I b = I0 b) → (∀ t, I 82 t = if t < c ∧ S.testBit t = true then wsI K LV n S t else I0 82 t) → ∃ I1, (∀ b, b ≠ 82 → I1 b = I0 b) ∧ (∀ t, I1 82 t = if t < n ∧ S.testBit t = true then wsI K LV n S t else I0 82 t) ∧ lp (d + 1) 38 (f + q + 1) 2 [some (iR (some 76)), some (iR (some 4)), some (iI (S : Int)), some (iI (c : Int))] [] (st h I J) = some (o0, st h I1 J) := by
  have hn := o.2.2.1.1
  intro q
  induction q with
  | zero =>
    intro c f I hc hf hw
    have ec : c = n := by omega
    subst ec
    refine ⟨I, hf, hw, ?_⟩
    rw [Nat.add_zero, e_Pa_setWishes_2, xB_s, ygIv (x := (c : Int)) (aT_4 s) (by rw [hf 4 (by omega), o.2.1.1, en]), if_neg (by omega)]
  | succ q ih =>
    intro c f I hc hf hw
    have fp : PpFr I I0 := fun b q1 q2 => hf b (by omega)
    have e4 : I 4 0 = (n : Int) := by rw [hf 4 (by omega), o.2.1.1, en]
    have b1 := shrI hS (show c < 7 by omega)
    rw [show f + (q + 1) + 1 = (f + q + 1) + 1 by omega, e_Pa_setWishes_2, xB_s, ygIv (aT_4 s) e4, if_pos (by omega), b1, wr_id (x := (c : Int) + 1) (by omega) (by omega), show (c : Int) + 1 = ((c + 1 : Nat) : Int) by omega]
    by_cases z : S.testBit c = true
    · have hL' : LkOk I n K LV := fun t u ht hu => by rw [hf 77 (by omega)]; exact hL t u ht hu
      have hM' : MyOk I n K LV n := fun t ht => by rw [hf 78 (by omega)]; exact hM t ht
      obtain ⟨I1, a1, a2, a3⟩ := ih (c + 1) f (up I 82 c (wsI K LV n S c)) (by omega) (fun b hb => by rw [up_na hb]; exact hf b hb) (fun t => by
        rw [up_at, hw]
        by_cases y : t = c
        · rw [if_pos y, y, if_pos ⟨by omega, z⟩]
        · rw [if_neg y]
          by_cases w : t < c ∧ S.testBit t = true
          · rw [if_pos w, if_pos ⟨by omega, w.2⟩]
          · rw [if_neg w, if_neg (fun u => w ⟨by omega, u.2⟩)])
      refine ⟨I1, a1, a2, ?_⟩
      rw [if_pos z, if_pos rfl, ygR (aT_76 s) (aR_76_5 s), yck (aT_76 s), t_wish s (o.pp fp) en hL' hM' hS (by omega) z, kI_o, xB_s, zSI (i := c) (aT_82 s) (by omega) (aL_82 s) rfl (by omega)]
      exact a3
    · obtain ⟨I1, a1, a2, a3⟩ := ih (c + 1) f I (by omega) hf (fun t => by
        rw [hw]
        by_cases w : t < c ∧ S.testBit t = true
        · rw [if_pos w, if_pos ⟨by omega, w.2⟩]
        · rw [if_neg w, if_neg]
          rintro ⟨u1, u2⟩
          by_cases y : t = c
          · rw [y] at u2
            exact z u2
          · exact w ⟨by omega, u2⟩)
      refine ⟨I1, a1, a2, ?_⟩
      rw [if_neg z, if_neg (by omega)]
      exact a3
noncomputable def rxN (K : Nat → Int) (LV : LwV) (n S t R0 i : Nat) : Nat := @ite _ (∃ j, 1 ≤ j ∧ j ≤ i ∧ itr (wsA K LV n S) j t = t) (Classical.propDecidable _) (R0 ||| 2 ^ t) R0
theorem rxN_s {S t R0 i : Nat} : rxN K LV n S t R0 (i + 1) = if itr (wsA K LV n S) (i + 1) t = t then rxN K LV n S t R0 i ||| 2 ^ t else rxN K LV n S t R0 i := by
  unfold rxN
  by_cases z : itr (wsA K LV n S) (i + 1) t = t
  · rw [if_pos z, if_pos ⟨i + 1, by omega, Nat.le_refl _, z⟩]
    by_cases y : ∃ j, 1 ≤ j ∧ j ≤ i ∧ itr (wsA K LV n S) j t = t
    · rw [if_pos y, Nat.or_assoc, Nat.or_self]
    · rw [if_neg y]
  · rw [if_neg z]
    by_cases y : ∃ j, 1 ≤ j ∧ j ≤ i ∧ itr (wsA K LV n S) j t = t
    · obtain ⟨j, j1, j2, j3⟩ := y
      rw [if_pos ⟨j, j1, by omega, j3⟩, if_pos ⟨j, j1, j2, j3⟩]
    · rw [if_neg y, if_neg]
      rintro ⟨j, j1, j2, j3⟩
      by_cases w : j = i + 1
      · rw [w] at j3
        exact z j3
      · exact y ⟨j, j1, by omega, j3⟩
theorem rxN_lt (hn : n ≤ 7) {S t R0 i : Nat} (hR : R0 < 2 ^ n) (ht : t < n) : rxN K LV n S t R0 i < 128 := by
  have h1 := (maskN hn hR).2.2 t ht
  have h2 := pw128 hn
  unfold rxN
  split <;> omega
theorem l_irT21 (s : ShT h) {I : Nat → Nat → Int} (o : NowOk h I K LW) (en : K 183 = (n : Int)) {S t R0 : Nat} (hS : S < 128) (hR : R0 < 2 ^ n) (ht : t < n) (hSt : S.testBit t = true) (hw : ∀ t, t < n → S.testBit t = true → I 82 t = wsI K LV n S t) : ∀ (q i f : Nat), i + q = n → lp d 40 (f + q + 1) 21 [some (iR (some 76)), some (iR (some 4)), some (iI (S : Int)), some (iI (rxN K LV n S t R0 i : Nat)), some (iI (t : Int)), some (iI (itr (wsA K LV n S) i t : Nat)), some (iI (i : Int))] [] (st h I J) = lp d 40 f 5 [some (iR (some 76)), some (iR (some 4)), some (iI (S : Int)), some (iI (rxN K LV n S t R0 n : Nat)), some (iI ((t + 1 : Nat) : Int)), none, none] [] (st h I J) := by
  have hn := o.2.2.1.1
  have e4 : I 4 0 = (n : Int) := o.2.1.1.trans en
  have b1 := shrI hS (show t < 7 by omega)
  intro q
  induction q with
  | zero =>
    intro i f hi
    rw [Nat.add_zero, e_Pa_inRings_21, xB_s, ygIv (aT_4 s) e4, if_neg (by omega), wr_id (x := (t : Int) + 1) (by omega) (by omega), show i = n by omega]
    rfl
  | succ q ih =>
    intro i f hi
    have h1 := itr_S (LV := LV) o.2.2.1 en ht hSt i
    have h2 := wsI_ok (LV := LV) o.2.2.1 en h1.2 h1.1
    have i0 := ih (i + 1) f (by omega)
    rw [rxN_s] at i0
    have hx := rxN_lt (K := K) (LV := LV) (S := S) (i := i) (show n ≤ 7 by omega) hR ht
    have hbt := (bitI hx (show t < 7 by omega)).1
    have e6 := t_at o en (t := (wsI K LV n S (itr (wsA K LV n S) i t)).toNat) (by omega)
    have e6' : I 6 (wsI K LV n S (itr (wsA K LV n S) i t)).toNat = ((itr (wsA K LV n S) (i + 1) t : Nat) : Int) := by
      rw [itr_s]
      exact e6
    rw [show f + (q + 1) + 1 = (f + q + 1) + 1 by omega, e_Pa_inRings_21, xB_s, ygIv (aT_4 s) e4, if_pos (by omega), b1, if_pos hSt, if_pos rfl, xB_s, ygR (aT_4 s) (aR_4_2 s), ygR (aT_76 s) (aR_76_5 s), xB_s, yaIv (i := itr (wsA K LV n S) i t) (aT_82 s) (aL_82 s) rfl (by omega) (hw _ h1.2 h1.1), xB_s, yaIv (i := (wsI K LV n S (itr (wsA K LV n S) i t)).toNat) (aT_6 s) (aL_6 s) (by omega) (by omega) e6', wr_id (x := (i : Int) + 1) (by omega) (by omega), show (i : Int) + 1 = ((i + 1 : Nat) : Int) by omega]
    by_cases z : itr (wsA K LV n S) (i + 1) t = t
    · rw [if_pos z] at i0
      rw [if_pos (by omega), hbt, i0]
    · rw [if_neg z] at i0
      rw [if_neg (by omega), i0]
theorem l_irT5 (s : ShT h) {I : Nat → Nat → Int} (o : NowOk h I K LW) (en : K 183 = (n : Int)) {S : Nat} (hS : S < 128) (hw : ∀ t, t < n → S.testBit t = true → I 82 t = wsI K LV n S t) : ∀ (q t f : Nat), t + q = n → lp d 40 (f + 10 * q + 1) 5 [some (iR (some 76)), some (iR (some 4)), some (iI (S : Int)), some (iI (mkB (rgB K LV n S) t : Nat)), some (iI (t : Int)), none, none] [] (st h I J) = some (oI (rgS K LV n S : Nat), st h I J) := by
  have hn := o.2.2.1.1
  have e4 : I 4 0 = (n : Int) := o.2.1.1.trans en
  intro q
  induction q with
  | zero =>
    intro t f ht
    have : t = n := by omega
    subst this
    rw [show f + 10 * 0 + 1 = f + 1 by omega, e_Pa_inRings_5, xB_s, ygIv (aT_4 s) e4, if_neg (by omega)]
    rfl
  | succ q ih =>
    intro t f ht
    have b1 := shrI hS (show t < 7 by omega)
    have em : mkB (rgB K LV n S) (t + 1) = if rgB K LV n S t = true then mkB (rgB K LV n S) t ||| 2 ^ t else mkB (rgB K LV n S) t := rfl
    rw [show f + 10 * (q + 1) + 1 = (f + 10 * q + 10) + 1 by omega, e_Pa_inRings_5, xB_s, ygIv (aT_4 s) e4, if_pos (by omega)]
    by_cases z : S.testBit t = true
    · have hR0 : mkB (rgB K LV n S) t < 2 ^ n := Nat.lt_of_lt_of_le (mkB_lt _ (by omega)) (Nat.pow_le_pow_right (by omega) (by omega))
      have h21 := l_irT21 (d := d) (J := J) s o en (R0 := mkB (rgB K LV n S) t) hS hR0 (by omega) z hw n 0 (f + 10 * q + 1 + (8 - n)) (by omega)
      rw [show f + 10 * q + 1 + (8 - n) + n + 1 = f + 10 * q + 10 by omega] at h21
      have r0 : rxN K LV n S t (mkB (rgB K LV n S) t) 0 = mkB (rgB K LV n S) t := by
        unfold rxN
        rw [if_neg]
        rintro ⟨j, j1, j2, -⟩
        omega
      rw [r0] at h21
      have h21' : lp d 40 (f + 10 * q + 10) 21 [some (iR (some 76)), some (iR (some 4)), some (iI (S : Int)), some (iI (mkB (rgB K LV n S) t : Nat)), some (iI (t : Int)), some (iI (t : Int)), some (iI 0)] [] (st h I J) = _ := h21
      have er : rxN K LV n S t (mkB (rgB K LV n S) t) n = mkB (rgB K LV n S) (t + 1) := by
        rw [em]
        unfold rxN
        by_cases y : isRg K LV n S t
        · have yb : rgB K LV n S t = true := by unfold rgB; rw [z, Bool.true_and]; exact @decide_eq_true _ (Classical.propDecidable _) y
          have y' : ∃ j, 1 ≤ j ∧ j ≤ n ∧ itr (wsA K LV n S) j t = t := y
          rw [if_pos yb, if_pos y']
        · have yb : ¬ rgB K LV n S t = true := by
            unfold rgB
            rw [z, Bool.true_and]
            intro w
            exact y (@of_decide_eq_true _ (Classical.propDecidable _) w)
          have y' : ¬ ∃ j, 1 ≤ j ∧ j ≤ n ∧ itr (wsA K LV n S) j t = t := y
          rw [if_neg yb, if_neg y']
      have i0 := ih (t + 1) (f + (8 - n)) (by omega)
      rw [show f + (8 - n) + 10 * q + 1 = f + 10 * q + 1 + (8 - n) by omega] at i0
      rw [h21', er, i0]
    · have yb : ¬ rgB K LV n S t = true := fun w => z (Bool.and_eq_true_iff.mp w).1
      rw [if_neg yb] at em
      have i0 := ih (t + 1) (f + 8) (by omega)
      rw [em, show f + 8 + 10 * q + 1 = f + 10 * q + 9 by omega] at i0
      rw [show f + 10 * q + 10 = (f + 10 * q + 9) + 1 by omega, e_Pa_inRings_21, xB_s, ygIv (aT_4 s) e4, if_pos (by omega), b1, if_neg z, if_neg (by omega), wr_id (x := (t : Int) + 1) (by omega) (by omega), show (t : Int) + 1 = ((t + 1 : Nat) : Int) by omega, i0]
theorem l_mkT (s : ShT h) {I0 : Nat → Nat → Int} (o : NowOk h I0 K LW) (en : K 183 = (n : Int)) (hL : LkOk I0 n K LV) (hM : MyOk I0 n K LV n) {t : Nat} (ht : t < n) : ∀ (r i f S : Nat) (V : Nat → Int) (I : Nat → Nat → Int), i + r = n → S < 2 ^ n → (∀ b, b ≠ 82 → I b = I0 b) → (∀ t, t < n → I 82 t = V t) → ∃ I1, PpFr I1 I0 ∧ lp (d + 2) 37 (f + r + 1) 12 [some (iR (some 76)), some (iR (some 4)), some (iI (t : Int)), some (iI (S : Int)), some (iI (i : Int))] [] (st h I J) = some (oI (mkt K LV n t r S V), st h I1 J) := by
  have hn := o.2.2.1.1
  intro r
  induction r with
  | zero =>
    intro i f S V I hi hS hf hv
    refine ⟨I, fun b q1 q2 => hf b (by omega), ?_⟩
    rw [Nat.add_zero, e_Pa_marketed_12, xB_s, ygIv (x := (n : Int)) (aT_4 s) (by rw [hf 4 (by omega), o.2.1.1, en]), if_neg (by omega), ygR (aT_76 s) (aR_76_5 s), xB_s, yaIv (i := t) (aT_82 s) (aL_82 s) rfl (by omega) (hv t ht)]
    rfl
  | succ r ih =>
    intro i f S V I hi hS hf hv
    have hS7 := Nat.lt_of_lt_of_le hS (pw128 (k := n) (by omega))
    have e4 : I 4 0 = (n : Int) := by rw [hf 4 (by omega), o.2.1.1, en]
    have b1 := shrI hS7 (show t < 7 by omega)
    have em : mkt K LV n t (r + 1) S V = if S.testBit t = true then mkt K LV n t r (nxS K LV n S) (nxV K LV n S V) else V t := rfl
    rw [show f + (r + 1) + 1 = (f + r + 1) + 1 by omega, e_Pa_marketed_12, xB_s, ygIv (aT_4 s) e4, if_pos (by omega), b1, em]
    by_cases z : S.testBit t = true
    · have fp : PpFr I I0 := fun b q1 q2 => hf b (by omega)
      have hL' : LkOk I n K LV := fun t u ht hu => by rw [hf 77 (by omega)]; exact hL t u ht hu
      have hM' : MyOk I n K LV n := fun t ht => by rw [hf 78 (by omega)]; exact hM t ht
      obtain ⟨I1, a1, a2, a3⟩ := l_swT (d := d) (J := J) s (o.pp fp) en hL' hM' hS7 n 0 (999998 - n) I (by omega) (fun b _ => rfl) (fun t => by rw [if_neg (fun w => by omega)])
      rw [show 999998 - n + n + 1 = 999999 by omega] at a3
      have a3' : lp (d + 1) 38 999999 2 [some (iR (some 76)), some (iR (some 4)), some (iI (S : Int)), some (iI 0)] [] (st h I J) = _ := a3
      have fp1 : PpFr I1 I0 := fun b q1 q2 => by rw [a1 b (by omega), hf b (by omega)]
      have hi5 := l_irT5 (d := d + 1) (J := J) s (o.pp fp1) en hS7 (LV := LV) (fun u hu hSu => by rw [a2, if_pos ⟨hu, hSu⟩]) n 0 (999998 - 10 * n) (by omega)
      rw [show 999998 - 10 * n + 10 * n + 1 = 999999 by omega] at hi5
      have hi5' : lp (d + 1) 40 999999 5 [some (iR (some 76)), some (iR (some 4)), some (iI (S : Int)), some (iI 0), some (iI 0), none, none] [] (st h I1 J) = _ := hi5
      have hR : rgS K LV n S < 128 := Nat.lt_of_lt_of_le (mkB_lt (rgB K LV n S) (k := n) (by omega)) (pw128 (k := n) (by omega))
      obtain ⟨I2, b1', b2⟩ := ih (i + 1) f (nxS K LV n S) (nxV K LV n S V) I1 (by omega) (nxS_lt (by omega) hS) (fun b hb => by rw [a1 b hb, hf b hb]) (fun u hu => by
        rw [a2]
        unfold nxV
        by_cases y : S.testBit u = true
        · rw [if_pos ⟨hu, y⟩, if_pos y]
        · rw [if_neg (fun w => y w.2), if_neg y, hv u hu])
      refine ⟨I2, b1', ?_⟩
      rw [if_pos z, if_pos rfl, if_pos z, yck (aT_76 s), r_Pa_setWishes, e_Pa_setWishes, a3', kV_o, yck (aT_76 s), r_Pa_inRings, e_Pa_inRings, hi5', kI_o, (outI hS7 hR).1, wr_id (x := (i : Int) + 1) (by omega) (by omega), show (i : Int) + 1 = ((i + 1 : Nat) : Int) by omega]
      exact b2
    · refine ⟨I, fun b q1 q2 => hf b (by omega), ?_⟩
      rw [if_neg z, if_neg (by omega), if_neg z, ygR (aT_76 s) (aR_76_5 s), xB_s, yaIv (i := t) (aT_82 s) (aL_82 s) rfl (by omega) (hv t ht)]
/-- the reference -/
theorem okM_0 (t u : Nat) : okM K LV 0 t u = decide (haveK K LV (t : Int) (u : Int) = 1) := by
  unfold okM
  rw [decide_eq_true (show (0 : Int) = 0 from rfl), Bool.true_or, Bool.and_true]
def Gn (n S G : Nat) : Prop := G < 2 ^ n ∧ ∀ t, t < n → G.testBit t = !(S.testBit t)
theorem l_wsM (m : ShM h 88) (k : KOk K) {I : Nat → Nat → Int} (e90 : I 90 = K) (en : K 183 = (n : Int)) (hW : WmOk I n (okM K LV 0) (wM K LV 0 n)) {S G t : Nat} (hG : Gn n S G) (ht : t < n) : ∀ (q c f : Nat), c + q = n → lp (d + 1) 264 (f + q + 1) 8 [some (iR (some 88)), some (iI (t : Int)), some (iI (G : Int)), some (iI (wsF K LV S t c).1), some (iI (wsF K LV S t c).2), some (iI (c : Int))] [] (st h I J) = some (oI (wsI K LV n S t), st h I J) := by
  have hn := k.1
  have hG7 := Nat.lt_of_lt_of_le hG.1 (pw128 (k := n) (by omega))
  intro q
  induction q with
  | zero =>
    intro c f hc
    have ec : c = n := by omega
    subst ec
    rw [Nat.add_zero, e_M_askedBy_8, yck (bT_88 m), m_many m (x := (c : Int)) (by rw [e90, en]), kI_o, if_neg (by omega)]
    rfl
  | succ q ih =>
    intro c f hc
    have i0 := ih (c + 1) f (by omega)
    rw [wsF_s] at i0
    have hlt := atN_lt k en c (by omega)
    have b1 := shrI hG7 (show atN K c < 7 by omega)
    rw [hG.2 _ hlt] at b1
    have hw := hW t c ht (by omega)
    rw [okM_0] at hw
    have hv : I 106 (7 * t + c) = likeK K LV (t : Int) (c : Int) := by
      rw [hw.2]
      unfold wM
      rw [if_pos ⟨ht, by omega⟩, if_pos rfl]
    have hn1 : ∀ z : Bool, (!z) = true → ¬ z = true := fun z => by cases z <;> decide
    rw [show f + (q + 1) + 1 = (f + q + 1) + 1 by omega, e_M_askedBy_8, yck (bT_88 m), m_many m (x := (n : Int)) (by rw [e90, en]), kI_o, if_pos (by omega), yck (bT_88 m), m_where m k e90 (by omega), kI_o, atN_i k en (by omega), s_isIn, kI_o, b1, wr_id (x := (c : Int) + 1) (by omega) (by omega), show (c : Int) + 1 = ((c + 1 : Nat) : Int) by omega]
    by_cases z1 : S.testBit (atN K c) = true
    · rw [if_neg (show ¬ (!(S.testBit (atN K c))) = true by rw [z1]; decide), if_neg (show ¬ (0 : Int) = 1 by omega), if_pos rfl, ygR (bT_88 m) (bR_36 m), s_pairAt _ (by omega) (by omega), kI_o, xB_s, yaBv (i := 7 * t + c) (Or.inr (bT_107 m)) (bL_107 m) (by omega) (by omega) hw.1]
      by_cases z2 : haveK K LV (t : Int) (c : Int) = 1
      · have zo : ofB K LV S t c = true := by unfold ofB; rw [z1, decide_eq_true z2]; rfl
        rw [if_pos (decide_eq_true z2), if_neg (by omega), ygR (bT_88 m) (bR_35 m), s_pairAt _ (by omega) (by omega), kI_o, xB_s, yaIv (i := 7 * t + c) (bT_106 m) (bL_106 m) (by omega) (by omega) hv]
        by_cases z3 : likeK K LV (t : Int) (c : Int) ≤ (wsF K LV S t c).2
        · rw [if_neg (fun w => by have := w.2; omega)] at i0
          rw [if_pos z3, i0]
        · rw [if_pos ⟨zo, by omega⟩] at i0
          rw [if_neg z3, ygR (bT_88 m) (bR_35 m), s_pairAt _ (by omega) (by omega), kI_o, xB_s, yaIv (i := 7 * t + c) (bT_106 m) (bL_106 m) (by omega) (by omega) hv]
          exact i0
      · have zo : ¬ ofB K LV S t c = true := fun w => z2 (of_decide_eq_true (Bool.and_eq_true_iff.mp w).2)
        rw [if_neg (fun w => zo w.1)] at i0
        rw [if_neg (show ¬ decide (haveK K LV (t : Int) (c : Int) = 1) = true by rw [decide_eq_false z2]; decide), if_pos rfl, i0]
    · have zo : ¬ ofB K LV S t c = true := fun w => z1 (Bool.and_eq_true_iff.mp w).1
      have zf : S.testBit (atN K c) = false := by
        cases y : S.testBit (atN K c) with
        | false => rfl
        | true => exact absurd y z1
      rw [if_neg (fun w => zo w.1)] at i0
      rw [if_pos (show (!(S.testBit (atN K c))) = true by rw [zf]; rfl), if_pos (show (1 : Int) = 1 from rfl), if_neg (by omega), i0]
theorem m_asked (m : ShM h 88) (k : KOk K) {I : Nat → Nat → Int} (e90 : I 90 = K) (en : K 183 = (n : Int)) (hW : WmOk I n (okM K LV 0) (wM K LV 0 n)) {S G t : Nat} (hG : Gn n S G) (ht : t < n) : rn (d + 2) 264 [iR (some 88), iI (t : Int), iI (G : Int)] (st h I J) = some (oI (wsI K LV n S t), st h I J) := by
  have hn := k.1
  have i0 := l_wsM (d := d) (J := J) m k e90 en hW hG ht n 0 (999998 - n) (by omega)
  rw [show 999998 - n + n + 1 = 999999 by omega] at i0
  rw [r_M_askedBy, e_M_askedBy]
  exact i0
theorem l_akM (m : ShM h 88) (k : KOk K) (en : K 183 = (n : Int)) {S G : Nat} (hG : Gn n S G) {w : Int} : ∀ (q c f : Nat) (I : Nat → Nat → Int), c + q = n → I 90 = K → WmOk I n (okM K LV 0) (wM K LV 0 n) → (∀ t, t < c → S.testBit t = true → I 113 t = wsI K LV n S t) → ∃ I1, (∀ b, b ≠ 113 → I1 b = I b) ∧ (∀ t, t < n → S.testBit t = true → I1 113 t = wsI K LV n S t) ∧ lp (d + 3) 266 (f + q + 1) 27 [some (iR (some 88)), some (iI w), some (iI (G : Int)), some (iI (c : Int)), none] [] (st h I J) = lp (d + 3) 266 f 66 [some (iR (some 88)), some (iI w), some (iI (G : Int)), some (iI (G : Int)), some (iI 0)] [] (st h I1 J) := by
  have hn := k.1
  have hG7 := Nat.lt_of_lt_of_le hG.1 (pw128 (k := n) (by omega))
  intro q
  induction q with
  | zero =>
    intro c f I hc e90 hW hq
    have ec : c = n := by omega
    subst ec
    refine ⟨I, fun b _ => rfl, hq, ?_⟩
    rw [Nat.add_zero, e_M_market_27, yck (bT_88 m), m_many m (x := (c : Int)) (by rw [e90, en]), kI_o, if_neg (by omega)]
  | succ q ih =>
    intro c f I hc e90 hW hq
    have b1 := shrI hG7 (show c < 7 by omega)
    rw [hG.2 c (by omega)] at b1
    rw [show f + (q + 1) + 1 = (f + q + 1) + 1 by omega, e_M_market_27, yck (bT_88 m), m_many m (x := (n : Int)) (by rw [e90, en]), kI_o, if_pos (by omega), s_isIn, kI_o, b1, wr_id (x := (c : Int) + 1) (by omega) (by omega), show (c : Int) + 1 = ((c + 1 : Nat) : Int) by omega]
    by_cases z : S.testBit c = true
    · obtain ⟨I1, a1, a2, a3⟩ := ih (c + 1) f (up I 113 c (wsI K LV n S c)) (by omega) (by rw [up_na (by omega)]; exact e90) (fun t u ht hu => by rw [up_na (by omega), up_na (by omega)]; exact hW t u ht hu) (fun t ht hS => by
        rw [up_at]
        by_cases y : t = c
        · rw [if_pos y, y]
        · rw [if_neg y]
          exact hq t (by omega) hS)
      refine ⟨I1, fun b hb => by rw [a1 b hb, up_na hb], a2, ?_⟩
      rw [if_neg (show ¬ (!(S.testBit c)) = true by rw [z]; decide), if_neg (show ¬ (0 : Int) = 1 by omega), if_pos rfl, ygR (bT_88 m) (bR_44 m), yck (bT_88 m), m_asked (d := d + 1) m k e90 en hW hG (by omega), kI_o, xB_s, zSI (i := c) (bT_113 m) (by omega) (bL_113 m) rfl (by omega)]
      exact a3
    · have zf : S.testBit c = false := by
        cases y : S.testBit c with
        | false => rfl
        | true => exact absurd y z
      obtain ⟨I1, a1, a2, a3⟩ := ih (c + 1) f I (by omega) e90 hW (fun t ht hS => by
        by_cases y : t = c
        · rw [y] at hS
          exact absurd hS z
        · exact hq t (by omega) hS)
      refine ⟨I1, a1, a2, ?_⟩
      rw [if_pos (show (!(S.testBit c)) = true by rw [zf]; rfl), if_pos (show (1 : Int) = 1 from rfl), if_neg (by omega)]
      exact a3
theorem l_rdM (m : ShM h 88) (k : KOk K) {I : Nat → Nat → Int} (e90 : I 90 = K) (en : K 183 = (n : Int)) {S t : Nat} (ht : t < n) (hSt : S.testBit t = true) (hw : ∀ t, t < n → S.testBit t = true → I 113 t = wsI K LV n S t) : ∀ (q i f : Nat), i + q = n → (∀ j, 1 ≤ j → j ≤ i → itr (wsA K LV n S) j t ≠ t) → lp (d + 1) 265 (f + q + 1) 13 [some (iR (some 88)), some (iI (t : Int)), some (iI (itr (wsA K LV n S) (i + 1) t : Nat)), some (iI (i : Int))] [] (st h I J) = some (oI (@ite _ (isRg K LV n S t) (Classical.propDecidable _) 1 0), st h I J) := by
  have hn := k.1
  intro q
  induction q with
  | zero =>
    intro i f hi hj
    have ei : i = n := by omega
    subst ei
    rw [Nat.add_zero, e_M_isRound_13, yck (bT_88 m), m_many m (x := (i : Int)) (by rw [e90, en]), kI_o, if_neg (by omega)]
    by_cases z : itr (wsA K LV i S) (i + 1) t = t
    · rw [if_pos (by omega), if_pos (rg_one k en ht hSt z), xZ_1]
    · have nr : ¬ isRg K LV i S t := by
        rintro ⟨j, j1, j2, j3⟩
        exact hj j j1 j2 j3
      rw [if_neg (by omega), if_neg nr, xZ_0]
  | succ q ih =>
    intro i f hi hj
    have h1 := itr_S (LV := LV) k en ht hSt (i + 1)
    have h2 := wsI_ok (LV := LV) k en h1.2 h1.1
    rw [show f + (q + 1) + 1 = (f + q + 1) + 1 by omega, e_M_isRound_13, yck (bT_88 m), m_many m (x := (n : Int)) (by rw [e90, en]), kI_o, if_pos (by omega)]
    by_cases z : itr (wsA K LV n S) (i + 1) t = t
    · have hr : isRg K LV n S t := ⟨i + 1, by omega, by omega, z⟩
      rw [if_pos (by omega), if_pos (by omega), if_pos hr, xZ_1]
    · have i0 := ih (i + 1) f (by omega) (fun j j1 j2 => by
        by_cases y : j = i + 1
        · rw [y]
          exact z
        · exact hj j j1 (by omega))
      have ew : atK K (wsI K LV n S (itr (wsA K LV n S) (i + 1) t)) = ((itr (wsA K LV n S) (i + 1 + 1) t : Nat) : Int) := by
        have := atN_i k en (t := (wsI K LV n S (itr (wsA K LV n S) (i + 1) t)).toNat) (by omega)
        rw [show (((wsI K LV n S (itr (wsA K LV n S) (i + 1) t)).toNat : Nat) : Int) = wsI K LV n S (itr (wsA K LV n S) (i + 1) t) by omega] at this
        rw [this]
        have : itr (wsA K LV n S) (i + 1 + 1) t = wsA K LV n S (itr (wsA K LV n S) (i + 1) t) := itr_s (i + 1) t
        rw [this]
        rfl
      rw [if_neg (by omega), ygR (bT_88 m) (bR_44 m), xB_s, yaIv (i := itr (wsA K LV n S) (i + 1) t) (bT_113 m) (bL_113 m) rfl (by omega) (hw _ h1.2 h1.1), yck (bT_88 m), m_where m k e90 (by omega), kI_o, ew, wr_id (x := (i : Int) + 1) (by omega) (by omega), show (i : Int) + 1 = ((i + 1 : Nat) : Int) by omega, i0]
theorem m_round (m : ShM h 88) (k : KOk K) {I : Nat → Nat → Int} (e90 : I 90 = K) (en : K 183 = (n : Int)) {S t : Nat} (ht : t < n) (hSt : S.testBit t = true) (hw : ∀ t, t < n → S.testBit t = true → I 113 t = wsI K LV n S t) : rn (d + 2) 265 [iR (some 88), iI (t : Int)] (st h I J) = some (oI (@ite _ (isRg K LV n S t) (Classical.propDecidable _) 1 0), st h I J) := by
  have hn := k.1
  have h2 := wsI_ok (LV := LV) k en ht hSt
  have ew : atK K (wsI K LV n S t) = ((itr (wsA K LV n S) (0 + 1) t : Nat) : Int) := by
    have := atN_i k en (t := (wsI K LV n S t).toNat) (by omega)
    rw [show (((wsI K LV n S t).toNat : Nat) : Int) = wsI K LV n S t by omega] at this
    rw [this]
    rfl
  have i0 := l_rdM (d := d) (J := J) m k e90 en ht hSt hw n 0 (999998 - n) (by omega) (fun j j1 j2 => by omega)
  rw [show 999998 - n + n + 1 = 999999 by omega] at i0
  have i0' : lp (d + 1) 265 999999 13 [some (iR (some 88)), some (iI (t : Int)), some (iI (itr (wsA K LV n S) (0 + 1) t : Nat)), some (iI 0)] [] (st h I J) = _ := i0
  rw [r_M_isRound, e_M_isRound, ygR (bT_88 m) (bR_44 m), xB_s, yaIv (i := t) (bT_113 m) (bL_113 m) rfl (by omega) (hw _ ht hSt), yck (bT_88 m), m_where m k e90 (by omega), kI_o, ew, i0']
theorem l_gtM (m : ShM h 88) (k : KOk K) (en : K 183 = (n : Int)) {S G : Nat} (hG : Gn n S G) {w : Int} {V : Nat → Int} : ∀ (q c f X : Nat) (I : Nat → Nat → Int), c + q = n → I 90 = K → (∀ t, t < n → S.testBit t = true → I 113 t = wsI K LV n S t) → X < 2 ^ n → (∀ t, t < n → X.testBit t = (G.testBit t || (decide (t < c) && rgB K LV n S t))) → (∀ t, t < n → X.testBit t = true → I 114 t = nxV K LV n S V t) → ∃ (X' : Nat) (I1 : Nat → Nat → Int), (∀ b, b ≠ 114 → I1 b = I b) ∧ Gn n (nxS K LV n S) X' ∧ (∀ t, t < n → X'.testBit t = true → I1 114 t = nxV K LV n S V t) ∧ lp (d + 3) 266 (f + q + 1) 66 [some (iR (some 88)), some (iI w), some (iI (G : Int)), some (iI (X : Int)), some (iI (c : Int))] [] (st h I J) = lp (d + 3) 266 f 17 [some (iR (some 88)), some (iI w), some (iI (X' : Int)), none, none] [] (st h I1 J) := by
  have hn := k.1
  have hG7 := Nat.lt_of_lt_of_le hG.1 (pw128 (k := n) (by omega))
  intro q
  induction q with
  | zero =>
    intro c f X I hc e90 hA hX hB hV
    have ec : c = n := by omega
    subst ec
    refine ⟨X, I, fun b _ => rfl, ⟨hX, fun t ht => ?_⟩, hV, ?_⟩
    · rw [hB t ht, nxS_bit S t ht, hG.2 t ht, decide_eq_true ht, Bool.true_and]
      cases S.testBit t <;> cases rgB K LV c S t <;> rfl
    · rw [Nat.add_zero, e_M_market_66, yck (bT_88 m), m_many m (x := (c : Int)) (by rw [e90, en]), kI_o, if_neg (by omega)]
  | succ q ih =>
    intro c f X I hc e90 hA hX hB hV
    have b1 := shrI hG7 (show c < 7 by omega)
    rw [hG.2 c (by omega)] at b1
    rw [show f + (q + 1) + 1 = (f + q + 1) + 1 by omega, e_M_market_66, yck (bT_88 m), m_many m (x := (n : Int)) (by rw [e90, en]), kI_o, if_pos (by omega), s_isIn, kI_o, b1, wr_id (x := (c : Int) + 1) (by omega) (by omega), show (c : Int) + 1 = ((c + 1 : Nat) : Int) by omega]
    have same : rgB K LV n S c = false → ∀ t, t < n → X.testBit t = (G.testBit t || (decide (t < c + 1) && rgB K LV n S t)) := fun hr t ht => by
      rw [hB t ht]
      by_cases y : t = c
      · rw [y, hr, Bool.and_false, Bool.and_false]
      · by_cases y2 : t < c
        · rw [decide_eq_true y2, decide_eq_true (show t < c + 1 by omega)]
        · rw [decide_eq_false y2, decide_eq_false (show ¬ t < c + 1 by omega)]
    by_cases z : S.testBit c = true
    · rw [if_neg (show ¬ (!(S.testBit c)) = true by rw [z]; decide), if_neg (show ¬ (0 : Int) = 1 by omega), if_pos rfl, yck (bT_88 m), m_round (d := d + 1) m k e90 en (by omega) z hA, kI_o]
      by_cases y : isRg K LV n S c
      · have yb : rgB K LV n S c = true := by unfold rgB; rw [z, Bool.true_and]; exact @decide_eq_true _ (Classical.propDecidable _) y
        have hX7 := Nat.lt_of_lt_of_le hX (pw128 (k := n) (by omega))
        obtain ⟨X', I1, a1, a2, a3, a4⟩ := ih (c + 1) f (X ||| 2 ^ c) (up I 114 c (wsI K LV n S c)) (by omega) (by rw [up_na (by omega)]; exact e90) (fun t ht hS => by rw [up_na (by omega)]; exact hA t ht hS) ((maskN (by omega) hX).2.2 c (by omega)) (fun t ht => by
          rw [Nat.testBit_or, Nat.testBit_two_pow, hB t ht]
          by_cases y1 : t = c
          · rw [y1, yb, decide_eq_true (show c = c from rfl), decide_eq_true (show c < c + 1 by omega), Bool.or_true, Bool.and_true, Bool.or_true]
          · rw [decide_eq_false (show ¬ c = t from fun w => y1 w.symm), Bool.or_false]
            by_cases y2 : t < c
            · rw [decide_eq_true y2, decide_eq_true (show t < c + 1 by omega)]
            · rw [decide_eq_false y2, decide_eq_false (show ¬ t < c + 1 by omega)]) (fun t ht hXt => by
          rw [up_at]
          by_cases y1 : t = c
          · rw [if_pos y1, y1]
            unfold nxV
            rw [if_pos z]
          · rw [if_neg y1]
            refine hV t ht ?_
            rw [Nat.testBit_or, Nat.testBit_two_pow, decide_eq_false (show ¬ c = t from fun w => y1 w.symm), Bool.or_false] at hXt
            exact hXt)
        refine ⟨X', I1, fun b hb => by rw [a1 b hb, up_na hb], a2, a3, ?_⟩
        rw [if_pos y, if_neg (by omega), ygR (bT_88 m) (bR_45 m), ygR (bT_88 m) (bR_44 m), xB_s, yaIv (i := c) (bT_113 m) (bL_113 m) rfl (by omega) (hA c (by omega) z), xB_s, zSI (i := c) (bT_114 m) (by omega) (bL_114 m) rfl (by omega), (bitI hX7 (show c < 7 by omega)).1]
        exact a4
      · have yb : rgB K LV n S c = false := by
          unfold rgB
          rw [z, Bool.true_and]
          exact @decide_eq_false _ (Classical.propDecidable _) y
        obtain ⟨X', I1, a1, a2, a3, a4⟩ := ih (c + 1) f X I (by omega) e90 hA hX (same yb) hV
        refine ⟨X', I1, a1, a2, a3, ?_⟩
        rw [if_neg y, if_pos rfl]
        exact a4
    · have zf : S.testBit c = false := by
        cases y : S.testBit c with
        | false => rfl
        | true => exact absurd y z
      have yb : rgB K LV n S c = false := by unfold rgB; rw [zf, Bool.false_and]
      obtain ⟨X', I1, a1, a2, a3, a4⟩ := ih (c + 1) f X I (by omega) e90 hA hX (same yb) hV
      refine ⟨X', I1, a1, a2, a3, ?_⟩
      rw [if_pos (show (!(S.testBit c)) = true by rw [zf]; rfl), if_pos (show (1 : Int) = 1 from rfl), if_neg (by omega)]
      exact a4
theorem l_mkM (m : ShM h 88) (k : KOk K) (en : K 183 = (n : Int)) {t : Nat} (ht : t < n) : ∀ (r f S G : Nat) (V : Nat → Int) (I : Nat → Nat → Int), popN S ≤ r → S < 2 ^ n → Gn n S G → I 90 = K → WmOk I n (okM K LV 0) (wM K LV 0 n) → (∀ t, t < n → ¬ S.testBit t = true → I 114 t = V t) → ∃ I1, (∀ b, b ≠ 113 → b ≠ 114 → I1 b = I b) ∧ lp (d + 3) 266 (f + 20 * r + 1) 17 [some (iR (some 88)), some (iI (t : Int)), some (iI (G : Int)), none, none] [] (st h I J) = some (oI (mkt K LV n t r S V), st h I1 J) := by
  have hn := k.1
  intro r
  induction r with
  | zero =>
    intro f S G V I hp hS hG e90 hW hV
    have hS7 := Nat.lt_of_lt_of_le hS (pw128 (k := n) (by omega))
    have hG7 := Nat.lt_of_lt_of_le hG.1 (pw128 (k := n) (by omega))
    have b1 := shrI hG7 (show t < 7 by omega)
    have hz := pop0 hS7 (show t < 7 by omega) (by omega)
    rw [hG.2 t ht, hz] at b1
    refine ⟨I, fun b _ _ => rfl, ?_⟩
    rw [show f + 20 * 0 + 1 = f + 1 by omega, e_M_market_17, s_isIn, kI_o, b1, if_pos (show (!false) = true from rfl), if_pos (show (1 : Int) = 1 from rfl), if_neg (by omega), ygR (bT_88 m) (bR_45 m), xB_s, yaIv (i := t) (bT_114 m) (bL_114 m) rfl (by omega) (hV t ht (by rw [hz]; decide))]
    rfl
  | succ r ih =>
    intro f S G V I hp hS hG e90 hW hV
    have hS7 := Nat.lt_of_lt_of_le hS (pw128 (k := n) (by omega))
    have hG7 := Nat.lt_of_lt_of_le hG.1 (pw128 (k := n) (by omega))
    have b1 := shrI hG7 (show t < 7 by omega)
    rw [hG.2 t ht] at b1
    have em : mkt K LV n t (r + 1) S V = if S.testBit t = true then mkt K LV n t r (nxS K LV n S) (nxV K LV n S V) else V t := rfl
    rw [show f + 20 * (r + 1) + 1 = (f + 20 * r + 20) + 1 by omega, e_M_market_17, s_isIn, kI_o, b1, em]
    by_cases z : S.testBit t = true
    · have hR := Nat.lt_of_lt_of_le (mkB_lt (rgB K LV n S) (k := n) (by omega)) (pw128 (k := n) (by omega))
      have hpop : popN (nxS K LV n S) ≤ r := by
        rcases (outI hS7 hR).2 with w | w
        · exfalso
          obtain ⟨u, u1, u2⟩ := rg_ex (LV := LV) k en ht z
          have hSu : S.testBit u = true := (Bool.and_eq_true_iff.mp u2).1
          have : (S &&& mkB (rgB K LV n S) n).testBit u = true := by
            rw [Nat.testBit_and, mkB_bit, decide_eq_true u1, hSu, u2]
            rfl
          rw [w, Nat.zero_testBit] at this
          cases this
        · have w' : popN (nxS K LV n S) < popN S := w
          omega
      obtain ⟨I1, a1, a2, a3⟩ := l_akM (d := d) (J := J) (LV := LV) m k en hG (w := (t : Int)) n 0 (f + 20 * r + 1 + (17 - n) + 1) I (by omega) e90 hW (fun t ht => absurd ht (by omega))
      rw [show f + 20 * r + 1 + (17 - n) + 1 + n + 1 = f + 20 * r + 20 by omega] at a3
      have a3' : lp (d + 3) 266 (f + 20 * r + 20) 27 [some (iR (some 88)), some (iI (t : Int)), some (iI (G : Int)), some (iI 0), none] [] (st h I J) = _ := a3
      have g90 : I1 90 = K := by rw [a1 90 (by omega)]; exact e90
      obtain ⟨X', I2, c1, c2, c3, c4⟩ := l_gtM (d := d) (J := J) (LV := LV) m k en hG (w := (t : Int)) (V := V) n 0 (f + 20 * r + 1 + (17 - n) - n) G I1 (by omega) g90 a2 hG.1 (fun u hu => by rw [decide_eq_false (show ¬ u < 0 by omega), Bool.false_and, Bool.or_false]) (fun u hu hGu => by
        have hSu : ¬ S.testBit u = true := by
          rw [hG.2 u hu] at hGu
          intro y
          rw [y] at hGu
          cases hGu
        rw [a1 114 (by omega), hV u hu hSu]
        unfold nxV
        rw [if_neg hSu])
      rw [show f + 20 * r + 1 + (17 - n) - n + n + 1 = f + 20 * r + 1 + (17 - n) + 1 by omega] at c4
      have c4' : lp (d + 3) 266 (f + 20 * r + 1 + (17 - n) + 1) 66 [some (iR (some 88)), some (iI (t : Int)), some (iI (G : Int)), some (iI (G : Int)), some (iI 0)] [] (st h I1 J) = _ := c4
      obtain ⟨I3, d1, d2⟩ := ih (f + (17 - n) - n) (nxS K LV n S) X' (nxV K LV n S V) I2 hpop (nxS_lt (by omega) hS) c2 (by rw [c1 90 (by omega)]; exact g90) (fun u v hu hv => by rw [c1 107 (by omega), c1 106 (by omega), a1 107 (by omega), a1 106 (by omega)]; exact hW u v hu hv) (fun u hu hn2 => c3 u hu (by
        rw [c2.2 u hu]
        cases y : (nxS K LV n S).testBit u with
        | false => rfl
        | true => exact absurd y hn2))
      rw [show f + (17 - n) - n + 20 * r + 1 = f + 20 * r + 1 + (17 - n) - n by omega] at d2
      refine ⟨I3, fun b q1 q2 => by rw [d1 b q1 q2, c1 b q2, a1 b q1], ?_⟩
      rw [if_neg (show ¬ (!(S.testBit t)) = true by rw [z]; decide), if_neg (show ¬ (0 : Int) = 1 by omega), if_pos rfl, if_pos z, a3', c4', d2]
    · have zf : S.testBit t = false := by
        cases y : S.testBit t with
        | false => rfl
        | true => exact absurd y z
      refine ⟨I, fun b _ _ => rfl, ?_⟩
      rw [if_pos (show (!(S.testBit t)) = true by rw [zf]; rfl), if_pos (show (1 : Int) = 1 from rfl), if_neg (by omega), if_neg z, ygR (bT_88 m) (bR_45 m), xB_s, yaIv (i := t) (bT_114 m) (bL_114 m) rfl (by omega) (hV t ht z)]
theorem C_market (v : Inv L xs k h I) (hk : k < 1000) (x : Int) : Cal L xs k h I J 125 266 [iI x] := by
  obtain ⟨LW, o⟩ := v.now
  have s := v.t
  have m := v.m
  have kk := o.2.2.1
  have hn := kk.1
  have hL := lvOf_ok kk o.2.2.2.1
  have E : ∀ I1, TnQ I1 I → I1 90 = I 90 := fun I1 t => t 90 (by omega) (by omega) (by omega) (by omega)
  obtain ⟨n, en⟩ : ∃ n : Nat, I 90 183 = (n : Int) := ⟨(I 90 183).toNat, by omega⟩
  by_cases c1 : 0 ≤ x ∧ x < I 90 183
  case neg =>
    refine Cal.q v hk (-1) (fun d => ⟨I, J, TnQ.rf I, ?_⟩) fun d I1 J1 t => ⟨I1, J1, MnQ.rf I1, ?_⟩
    · rw [r_T_market, e_T_market, ygR (aT_3 s) (aR_3_0 s), xB_s, yck (aT_4 s), t_isT (d := d + 98) o x, kI_o, if_neg c1, if_pos rfl]
    · have e90 := E I1 t
      rw [r_M_market, e_M_market, yck (bT_88 m), m_isT (d := d + 97) m x e90 hn, kI_o, if_neg c1, if_pos rfl]
  obtain ⟨x, rfl⟩ : ∃ x' : Nat, x = (x' : Int) := ⟨x.toNat, by omega⟩
  obtain ⟨f1, f2⟩ := fullN (n := n) (by omega)
  have hpos := Nat.two_pow_pos n
  have hall : ∀ t, t < n → (2 ^ n - 1).testBit t = true := fun t ht => by rw [Nat.testBit_two_pow_sub_one]; exact decide_eq_true ht
  refine Cal.q v hk (mkt (I 90) (lvOf (I 90) LW) n x n (2 ^ n - 1) (I 82)) (fun d => ?_) fun d I1 J1 t => ?_
  · obtain ⟨I1, a1, a2, a3, a4⟩ := s_fillL (d := d + 94) (J := J) o en
    have o1 := o.pp a1
    obtain ⟨I2, b1, b2, b3, b4⟩ := s_fillM (d := d + 93) (J := J) o1 en
    have hS : LkOk I2 n (I 90) (lvOf (I 90) LW) := fun t s ht hs => by rw [b2 77 (by omega)]; exact a4 t s ht hs
    have o2 := o1.pp b1
    obtain ⟨I3, c1', c2⟩ := l_mkT (d := d + 96) (J := J) s o2 en hS b4 (t := x) (by omega) n 0 (999998 - n) (2 ^ n - 1) (I 82) I2 (by omega) (by omega) (fun b _ => rfl) (fun t ht => by rw [b2 82 (by omega), a2 82 (by omega)])
    rw [show 999998 - n + n + 1 = 999999 by omega] at c2
    have c2' : lp (d + 98) 37 999999 12 [some (iR (some 76)), some (iR (some 4)), some (iI (x : Int)), some (iI ((2 ^ n - 1 : Nat) : Int)), some (iI 0)] [] (st h I2 J) = _ := c2
    refine ⟨I3, J, (c1'.tr (b1.tr a1)).tq, ?_⟩
    rw [r_T_market, e_T_market, ygR (aT_3 s) (aR_3_0 s), xB_s, yck (aT_4 s), t_isT (d := d + 98) o x, kI_o, if_pos c1, if_neg (by omega), ygR (aT_3 s) (aR_3_11 s), ygR (aT_3 s) (aR_3_0 s), ygR (aT_3 s) (aR_3_6 s), xB_s, yck (aT_76 s), a3, kV_o, ygR (aT_3 s) (aR_3_11 s), ygR (aT_3 s) (aR_3_0 s), ygR (aT_3 s) (aR_3_6 s), xB_s, yck (aT_76 s), b3, kV_o, ygR (aT_3 s) (aR_3_11 s), ygR (aT_3 s) (aR_3_0 s), xB_s, yck (aT_76 s), r_Pa_marketed, e_Pa_marketed, xB_s, ygIv (x := (n : Int)) (aT_4 s) (by rw [o2.2.1.1, en]), f2, c2', kI_o]
  · have e90 := E I1 t
    obtain ⟨I2, a1, a2, a3⟩ := s_worths (d := d + 52) (J := J1) (I := I1) (L := lvOf (I 90) LW) (n := n) (an := 0) m (by rw [e90]; exact kk) (by rw [e90]; exact hL) (by rw [e90]; exact en) (Or.inl rfl)
    rw [e90] at a3
    have g90 : I2 90 = I 90 := (a1.1 90 (by omega) (by omega) (by omega) (by omega)).trans e90
    obtain ⟨I3, b1, b2⟩ := l_mkM (d := d + 96) (J := J1) m kk en (t := x) (by omega) n (999998 - 20 * n) (2 ^ n - 1) 0 (I 82) I2 (by omega) (by omega) ⟨hpos, fun t ht => by rw [Nat.zero_testBit, hall t ht]; rfl⟩ g90 a3 (fun t ht hn2 => absurd (hall t ht) hn2)
    rw [show 999998 - 20 * n + 20 * n + 1 = 999999 by omega] at b2
    have b2' : lp (d + 99) 266 999999 17 [some (iR (some 88)), some (iI (x : Int)), some (iI 0), none, none] [] (st h I2 J1) = _ := b2
    refine ⟨I3, J1, ⟨fun b hb => by rw [b1 b (by omega) (by omega), a1.mq.1 b hb], fun i hi => by rw [b1 88 (by omega) (by omega), a1.mq.2 i hi]⟩, ?_⟩
    rw [r_M_market, e_M_market, yck (bT_88 m), m_isT (d := d + 97) m x e90 hn, kI_o, if_pos c1, if_neg (by omega), yck (bT_88 m), a2, kV_o, b2']
end P98k
