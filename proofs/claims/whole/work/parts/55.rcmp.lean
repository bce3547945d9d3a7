/-! The class's reader: TESTS (by program, wip/whole/gen55.py) -/
section P55a
variable (B : Nat → Int) (n : Nat)
/-- behind a row of "not": where, and whether turned -/
def aNot : Nat → Nat → Bool → Nat × Bool
  | 0, p, t => (p, t)
  | k + 1, p, t => if tkC B n p = 282 then aNot k (tkE B n p) (!t) else (p, t)
def opC (c : Int) : Int := if c = 60 then 7 else if c = 62 then 8 else 9
def aCmp (sum : Nat → Nat → RdR) (p l : Nat) : RdR := match sum p l with
  | .inl q => .inl q
  | .inr (p1, l1, f) => if tkC B n p1 = 60 ∨ tkC B n p1 = 62 ∨ tkC B n p1 = 61 then (match sum (tkE B n p1) l1 with
    | .inl q => .inl q
    | .inr (p2, l2, g) => .inr (p2, l2, binF (opC (tkC B n p1)) f g)) else .inl (tkF B n p1)
def aNegR (t : Bool) : RdR → RdR
  | .inl q => .inl q
  | .inr (p, l, f) => .inr (p, l, if t = true then negF f else f)
def aPlain (tst : Option (Nat → Nat → RdR)) (sum : Nat → Nat → RdR) (p l : Nat) : RdR :=
  aNegR (aNot B n (n - p) p false).2 (match tst with
    | none => aCmp B n sum (aNot B n (n - p) p false).1 l
    | some ti => if tkC B n (aNot B n (n - p) p false).1 = 40 then aClose B n 41 (ti (tkE B n (aNot B n (n - p) p false).1) l) else aCmp B n sum (aNot B n (n - p) p false).1 l)
/-- a TEST with r brackets more to spare -/
def aTest (ord : Int) : Nat → Nat → Nat → RdR
  | 0 => rwLogs B n 280 disF (rwLogs B n 281 conF (aPlain B n none (aSum B n ord 0)))
  | r + 1 => rwLogs B n 280 disF (rwLogs B n 281 conF (aPlain B n (some (aTest ord r)) (aSum B n ord (r + 1))))
end P55a
section P55
variable {d n nw : Nat} {h : IH} {J : Nat → Nat → Int} {B : Nat → Int} {ord : Int}
theorem l_not (s : ShT h) (rb : hR h 43 2 = some 42) (hn : n ≤ 400) (hB : ∀ i, 0 ≤ B i ∧ B i ≤ 255) {br : Int} : ∀ (k p l m i fu : Nat) (t : Bool) (I : Nat → Nat → Int), n - p ≤ k → k + 1 ≤ fu → RdOk B n ord I p l m → i ≤ p → ∃ (fu' : Nat) (I' : Nat → Nat → Int), fu ≤ fu' + k + 1 ∧ RdOk B n ord I' (aNot B n k p t).1 l m ∧ (∀ b, b ≠ 43 → I' b = I b) ∧ (p ≤ (aNot B n k p t).1 ∧ ((aNot B n k p t).2 ≠ t → p < (aNot B n k p t).1)) ∧ lp (d + 3) 66 fu 4 [some (iR (some 43)), some (iI br), some (iI (b2i t)), some (iI (i : Nat))] [] (st h I J) = lp (d + 3) 66 fu' 37 [some (iR (some 43)), some (iI br), some (iI (b2i (aNot B n k p t).2)), none] [] (st h I' J) := by
  intro k
  induction k with
  | zero =>
    intro p l m i fu t I hk hfu r hi
    have hpn : ¬ (tkC B n p ≠ 1001) := fun q => by
      have := tkE_lt r.2.2.2.1.1 q
      omega
    have hc : tkC B n p = 1001 := Decidable.not_not.mp hpn
    have rp := r.2.2.2.1.1
    obtain ⟨fu, rfl⟩ : ∃ q, fu = q + 1 := ⟨fu - 1, by omega⟩
    refine ⟨fu, I, by omega, r, fun b hb => rfl, ⟨Nat.le_refl _, fun z => absurd rfl z⟩, ?_⟩
    rw [e_Rd_readPlain_4]
    by_cases c : (i : Int) < 400
    · rw [if_pos c, yck (aT_43 s), s_takeX s (by rw [r.2.1.2.1, hc]; decide), kI_o, if_pos rfl]
      rfl
    · rw [if_neg c]
      rfl
  | succ k ih =>
    intro p l m i fu t I hk hfu r hi
    have rp := r.2.2.2.1.1
    obtain ⟨fu, rfl⟩ : ∃ q, fu = q + 1 := ⟨fu - 1, by omega⟩
    by_cases c : tkC B n p = 282
    · have hp := tkE_lt rp (show tkC B n p ≠ 1001 by omega)
      have e : aNot B n (k + 1) p t = aNot B n k (tkE B n p) (!t) := if_pos c
      obtain ⟨fu', I', a1, a2, a3, a4, a5⟩ := ih (tkE B n p) l m (i + 1) fu (!t) (tkI I B n (tkE B n p)) (by omega) (by omega) r.next (by omega)
      rw [e]
      refine ⟨fu', I', by omega, a2, fun b hb => (a3 b hb).trans (tkI_na hb), ⟨by omega, fun _ => by omega⟩, ?_⟩
      have hw : wr ((i : Int) + 1) = ((i + 1 : Nat) : Int) := by rw [wr_id (by omega) (by omega)]; rfl
      rw [e_Rd_readPlain_4, if_pos (by omega), yck (aT_43 s), s_takeY s rb hn hB r c, kI_o, if_neg (by decide), hw]
      cases t with
      | false =>
        rw [if_pos (show b2i false = 0 from rfl)]
        exact a5
      | true =>
        rw [if_neg (show ¬ b2i true = 0 by decide)]
        exact a5
    · have e : aNot B n (k + 1) p t = (p, t) := if_neg c
      rw [e]
      refine ⟨fu, I, by omega, r, fun b hb => rfl, ⟨Nat.le_refl _, fun z => absurd rfl z⟩, ?_⟩
      rw [e_Rd_readPlain_4]
      by_cases c2 : (i : Int) < 400
      · rw [if_pos c2, yck (aT_43 s), s_takeX s (by rw [r.2.1.2.1]; exact c), kI_o, if_pos rfl]
      · rw [if_neg c2]
/-- the last step: turned, if it is to be -/
noncomputable def turnK (d : Nat) (t : Bool) (g : IH) : Option IR := if b2i t = 0 then some (o0, g) else xgR g 43 15 0 fun x => xB x fun a => xck g a 19 <| kV (rn (d + 3) 84 [iR (some a), iI 10, iI 0] g) fun g2 => some (o0, g2)
theorem turn_ok (s : ShT h) {I : Nat → Nat → Int} (hm : 0 ≤ I 44 6 ∧ I 44 6 ≤ 400) (t : Bool) : turnK d t (st h I J) = some (o0, st h (if t = true then addI I 10 0 else I) J) := by
  unfold turnK
  cases t with
  | false => rw [if_pos (show b2i false = 0 from rfl), if_neg (by decide)]
  | true => rw [if_neg (show ¬ b2i true = 0 by decide), if_pos rfl, ygR (aT_43 s) (aR_43_0 s), xB_s, yck (aT_44 s), s_add s hm, kV_o]
theorem turn_no {I : Nat → Nat → Int} {q : Int} (r : RdNo B n ord I q) (t : Bool) : RdNo B n ord (if t = true then addI I 10 0 else I) q := by
  cases t with
  | false => exact r
  | true => exact r.add (by omega) (by omega)
theorem turn_fr (I : Nat → Nat → Int) (t : Bool) : RdFr (if t = true then addI I 10 0 else I) I := by
  cases t with
  | false => exact RdFr.rf I
  | true => exact addI_fr _ _ _
/-- a good TEST, turned -/
theorem turn_good {I I0 : Nat → Nat → Int} {p l m p0 l0 m0 : Nat} {f : Mng} (t : Bool) (hn : n ≤ 400) (r : RdOk B n ord I p l m) (h1 : l0 < l ∧ l ≤ 50) (h2 : p0 < p) (h3 : m + (if t = true then 1 else 0) + p0 ≤ p + m0) (h3b : m0 ≤ p0) (h4 : sem nw (I 45) (I 46) m0 m (l - l0) f) (h5 : isTst f) (h6 : SmSt I I0 m0) : PrG B n ord nw isTst (if t = true then addI I 10 0 else I) I0 p0 l0 m0 (aNegR t (.inr (p, l, f))) := by
  cases t with
  | false => exact PrG.fine r h1 h2 (by simpa using h3) h4 h5 h6
  | true =>
    have hp := r.2.2.2.1.1
    have hm := h4.1
    have h3 : m + 1 + p0 ≤ p + m0 := h3
    obtain ⟨r2, e2⟩ := r.add (a := 10) (b := 0) (by omega) (by omega) (by omega)
    have e45 : addI I 10 0 45 = up I 45 m 10 45 := by rw [e2, up_na (by omega), up_na (by omega)]
    have e46 : addI I 10 0 46 = up (up I 45 m 10) 46 m 0 46 := by rw [e2, up_na (by omega)]
    have hs1 : SmSt (addI I 10 0) I m := fun j hj => ⟨by rw [e45, up_ni (by omega)], by rw [e46, up_ni (by omega), up_na (by omega)]⟩
    refine PrG.fine r2 h1 h2 h3 ?_ (isTst_neg h5) (fun j hj => ⟨(hs1 j (by omega)).1.trans (h6 j hj).1, (hs1 j (by omega)).2.trans (h6 j hj).2⟩)
    exact sem_neg (h4.fr fun j _ j2 => hs1 j j2) h5 (by show addI I 10 0 45 m = 10; rw [e45, up_eq])
/-- behind the first SUM -/
theorem l_110 (s : ShT h) {I : Nat → Nat → Int} (t : Bool) (br s0 : Int) (f : Nat) : lp (d + 3) 66 (f + 2) 110 [some (iR (some 43)), some (iI br), some (iI (b2i t)), none] [iI s0] (st h I J) = (if I 43 5 = 60 ∨ I 43 5 = 62 ∨ I 43 5 = 61 then kV (rn (d + 3) 54 [iR (some 43)] (st h I J)) fun g1 => xck g1 43 15 <| kV (rn (d + 3) 67 [iR (some 43), iI br] g1) fun g2 => xgR g2 43 15 0 fun x => xB x fun a => xck g2 a 19 <| kV (rn (d + 3) 84 [iR (some a), iI s0, iI 0] g2) fun g3 => turnK d t g3
      else kV (rn (d + 3) 56 [iR (some 43)] (st h I J)) fun g1 => xck g1 43 15 <| kV (rn (d + 3) 67 [iR (some 43), iI br] g1) fun g2 => xgR g2 43 15 0 fun x => xB x fun a => xck g2 a 19 <| kV (rn (d + 3) 84 [iR (some a), iI s0, iI 0] g2) fun g3 => turnK d t g3) := by
  have h138 : lp (d + 3) 66 (f + 1) 138 [some (iR (some 43)), some (iI br), some (iI (b2i t)), some (iI s0)] [] (st h I J) = kV (rn (d + 3) 54 [iR (some 43)] (st h I J)) fun g1 => xck g1 43 15 <| kV (rn (d + 3) 67 [iR (some 43), iI br] g1) fun g2 => xgR g2 43 15 0 fun x => xB x fun a => xck g2 a 19 <| kV (rn (d + 3) 84 [iR (some a), iI s0, iI 0] g2) fun g3 => turnK d t g3 := by
    rw [e_Rd_readPlain_138, yck (aT_43 s)]
    rfl
  rw [e_Rd_readPlain_110, ygI (aT_43 s), h138, ygI (aT_43 s), ygI (aT_43 s), yck (aT_43 s)]
  by_cases c1 : I 43 5 = 60
  · rw [if_pos c1, if_pos (Or.inl c1)]
  · rw [if_neg c1]
    by_cases c2 : I 43 5 = 62
    · rw [if_pos c2, if_pos (Or.inr (Or.inl c2))]
    · rw [if_neg c2]
      by_cases c3 : I 43 5 = 61
      · rw [if_pos c3, if_pos (Or.inr (Or.inr c3))]
      · rw [if_neg c3, if_neg (fun z => z.elim c1 (fun z => z.elim c2 c3))]
        rfl
/-- what stands behind the first SUM of a comparing -/
noncomputable def cmpK (d : Nat) (t : Bool) (br : Int) (f : Nat) (g : IH) : Option IR := xgI g 43 15 5 fun x4 => if x4 = 60 then lp (d + 3) 66 (f + 2) 110 [some (iR (some 43)), some (iI br), some (iI (b2i t)), none] [iI 7] g else xgI g 43 15 5 fun x5 => if x5 = 62 then lp (d + 3) 66 (f + 2) 110 [some (iR (some 43)), some (iI br), some (iI (b2i t)), none] [iI 8] g else lp (d + 3) 66 (f + 2) 110 [some (iR (some 43)), some (iI br), some (iI (b2i t)), none] [iI 9] g
theorem cmpK_e (s : ShT h) {I : Nat → Nat → Int} (t : Bool) (br : Int) (f : Nat) : cmpK d t br f (st h I J) = lp (d + 3) 66 (f + 2) 110 [some (iR (some 43)), some (iI br), some (iI (b2i t)), none] [iI (opC (I 43 5))] (st h I J) := by
  unfold cmpK opC
  rw [ygI (aT_43 s), ygI (aT_43 s)]
  by_cases c1 : I 43 5 = 60
  · rw [if_pos c1, if_pos c1]
  · rw [if_neg c1, if_neg c1]
    by_cases c2 : I 43 5 = 62
    · rw [if_pos c2, if_pos c2]
    · rw [if_neg c2, if_neg c2]
theorem opC_in (c : Int) : 7 ≤ opC c ∧ opC c ≤ 9 := by
  unfold opC
  (repeat' split) <;> omega
/-- a comparing from the FAULT on -/
theorem l_cmpN (s : ShT h) {br : Int} {sum : Nat → Nat → RdR} (z : RdPr h J B n ord nw (fun _ => True) (fun g => rn (d + 3) 67 [iR (some 43), iI br] g) sum) (t : Bool) (f : Nat) {I : Nat → Nat → Int} {q : Int} (r : RdNo B n ord I q) : ∃ I', RdFr I' I ∧ cmpK d t br f (st h I J) = some (o0, st h I' J) ∧ RdNo B n ord I' q := by
  obtain ⟨I1, a1, a2, a3⟩ := z.2 I q r
  have a2 : rn (d + 3) 67 [iR (some 43), iI br] (st h I J) = some (o0, st h I1 J) := a2
  have hc := opC_in (I 43 5)
  have r2 := a3.add (a := opC (I 43 5)) (b := 0) (by omega) (by omega)
  refine ⟨_, (turn_fr (addI I1 (opC (I 43 5)) 0) t).tr ((addI_fr _ _ _).tr a1), ?_, turn_no r2 t⟩
  rw [cmpK_e s, l_110 s, if_neg (by rw [r.2.1.2.2]; decide), s_failN s r, kV_o, yck (aT_43 s), a2, kV_o, ygR (aT_43 s) (aR_43_0 s), xB_s, yck (aT_44 s), s_add s a3.2.2.1, kV_o, turn_ok s r2.2.2.1]
/-- a comparing -/
theorem l_cmpO (s : ShT h) (rb : hR h 43 2 = some 42) (hn : n ≤ 400) (hB : ∀ i, 0 ≤ B i ∧ B i ≤ 255) {br : Int} {sum : Nat → Nat → RdR} (z : RdPr h J B n ord nw (fun _ => True) (fun g => rn (d + 3) 67 [iR (some 43), iI br] g) sum) (t : Bool) (f : Nat) {I I0 : Nat → Nat → Int} {p l m p0 : Nat} (r : RdOk B n ord I p l m) (hl : l ≤ 50) (hm : m + p0 + (if t = true then 1 else 0) ≤ p + m) (hm0 : m ≤ p0) (hI0 : SmSt I I0 m) : ∃ I', RdFr I' I ∧ (kV (rn (d + 3) 67 [iR (some 43), iI br] (st h I J)) fun g => cmpK d t br f g) = some (o0, st h I' J) ∧ PrG B n ord nw isTst I' I0 p0 l m (aNegR t (aCmp B n sum p l)) := by
  have ht : (if t = true then 1 else 0) ≤ 1 := by split <;> omega
  obtain ⟨I1, a1, a2, a3⟩ := z.ok r hl (by omega)
  have a2 : rn (d + 3) 67 [iR (some 43), iI br] (st h I J) = some (o0, st h I1 J) := a2
  rw [a2, kV_o]
  unfold aCmp
  cases e : sum p l with
  | inl q =>
    obtain ⟨I2, b1, b2, b3⟩ := l_cmpN s z t f (a3.1 q e)
    exact ⟨I2, b1.tr a1, b2, PrG.bad b3⟩
  | inr x =>
    obtain ⟨p1, l1, g⟩ := x
    obtain ⟨m1, b1, b2, b3, b4, b5, b6, b7⟩ := a3.2 p1 l1 g e
    have c5 := b1.2.1.2.1
    have hc := opC_in (tkC B n p1)
    dsimp only
    rw [cmpK_e s, l_110 s, c5]
    by_cases c : tkC B n p1 = 60 ∨ tkC B n p1 = 62 ∨ tkC B n p1 = 61
    · have hp := tkE_lt b1.2.2.2.1.1 (show tkC B n p1 ≠ 1001 by omega)
      have r1 := b1.next
      obtain ⟨I2, d1, d2, d3⟩ := z.ok r1 b2.2 (by omega)
      have d2 : rn (d + 3) 67 [iR (some 43), iI br] (st h (tkI I1 B n (tkE B n p1)) J) = some (o0, st h I2 J) := d2
      have k1 := (d1.tr (tkI_fr I1 B n (tkE B n p1))).tr a1
      rw [if_pos c, if_pos c, s_next s rb hn hB b1, kV_o, yck (aT_43 s), d2, kV_o, ygR (aT_43 s) (aR_43_0 s), xB_s, yck (aT_44 s)]
      cases e2 : sum (tkE B n p1) l1 with
      | inl q =>
        have rq := d3.1 q e2
        have r2 := rq.add (a := opC (tkC B n p1)) (b := 0) (by omega) (by omega)
        rw [s_add s rq.2.2.1, kV_o, turn_ok s r2.2.2.1]
        exact ⟨_, (turn_fr _ t).tr ((addI_fr _ _ _).tr k1), rfl, PrG.bad (turn_no r2 t)⟩
      | inr x2 =>
        obtain ⟨p2, l2, g2⟩ := x2
        obtain ⟨m2, f1, f2, f3, f4, f5, f6, f7⟩ := d3.2 p2 l2 g2 e2
        have hp2 := f1.2.2.2.1.1
        have h12 := f5.1
        have h01 := b5.1
        obtain ⟨r2, e3⟩ := f1.add (a := opC (tkC B n p1)) (b := 0) (by omega) (by omega) (by omega)
        rw [s_add s (by rw [f1.2.2.1.2]; omega), kV_o, turn_ok s (by rw [r2.2.2.1.2]; omega)]
        have e45 : addI I2 (opC (tkC B n p1)) 0 45 = up I2 45 m2 (opC (tkC B n p1)) 45 := by rw [e3, up_na (by omega), up_na (by omega)]
        have e46 : addI I2 (opC (tkC B n p1)) 0 46 = up (up I2 45 m2 (opC (tkC B n p1))) 46 m2 0 46 := by rw [e3, up_na (by omega)]
        have hs1 : SmSt (addI I2 (opC (tkC B n p1)) 0) I2 m2 := fun j hj => ⟨by rw [e45, up_ni (by omega)], by rw [e46, up_ni (by omega), up_na (by omega)]⟩
        have hs2 : SmSt I2 I1 m1 := fun j hj => ⟨by rw [(f7 j hj).1, tkI_na (by omega)], by rw [(f7 j hj).2, tkI_na (by omega)]⟩
        have hs3 : SmSt (addI I2 (opC (tkC B n p1)) 0) I1 m1 := fun j hj => ⟨(hs1 j (by omega)).1.trans (hs2 j hj).1, (hs1 j (by omega)).2.trans (hs2 j hj).2⟩
        have hbs := sem_bin (b5.fr fun j _ j2 => hs3 j j2) (f5.fr fun j _ j2 => hs1 j j2) (show addI I2 (opC (tkC B n p1)) 0 45 m2 = opC (tkC B n p1) by rw [e45, up_eq]) (by omega) (by omega)
        rw [show l1 - l + (l2 - l1) = l2 - l by omega] at hbs
        exact ⟨_, (turn_fr _ t).tr ((addI_fr _ _ _).tr k1), rfl, turn_good t hn r2 (by omega) (by omega) (by omega) hm0 hbs (isTst_bin hc _ _) (fun j hj => ⟨((hs3 j (by omega)).1.trans (b7 j hj).1).trans (hI0 j hj).1, ((hs3 j (by omega)).2.trans (b7 j hj).2).trans (hI0 j hj).2⟩)⟩
    · have rf := failO b1
      obtain ⟨I2, d1, d2, d3⟩ := z.2 _ _ rf
      have d2 : rn (d + 3) 67 [iR (some 43), iI br] (st h (up (up I1 43 1 (tkF B n p1)) 43 5 1002) J) = some (o0, st h I2 J) := d2
      have r2 := d3.add (a := opC (tkC B n p1)) (b := 0) (by omega) (by omega)
      rw [if_neg c, if_neg c, s_failO s b1, kV_o, yck (aT_43 s), d2, kV_o, ygR (aT_43 s) (aR_43_0 s), xB_s, yck (aT_44 s), s_add s d3.2.2.1, kV_o, turn_ok s r2.2.2.1]
      exact ⟨_, (turn_fr _ t).tr ((addI_fr _ _ _).tr ((d1.tr (fail_fr _ _ _)).tr a1)), rfl, PrG.bad (turn_no r2 t)⟩
end P55
