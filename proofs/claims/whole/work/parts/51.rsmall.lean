/-! The class's reader: its small methods (by program, wip/whole/gen51.py) -/
theorem tkE_lt {B : Nat → Int} {n p : Nat} (hp : p ≤ n) (h : tkC B n p ≠ 1001) : p < tkE B n p ∧ tkE B n p ≤ n := by
  have f1 : tkF B n p ≤ n := scT_le _ _ hp
  have f0 : p ≤ tkF B n p := scT_ge _ _ _ _
  have d2 : tkD B n p ≤ n := scT_le _ _ f1
  have g2 : tkL B n p ≤ n := scT_le _ _ f1
  unfold tkC at h
  unfold tkE
  by_cases c1 : tkF B n p < tkD B n p
  · rw [if_pos c1]
    omega
  · rw [if_neg c1] at h ⊢
    by_cases c2 : tkF B n p < n
    · rw [if_pos c2]
      by_cases c3 : tkF B n p < tkL B n p
      · rw [if_pos c3]
        omega
      · rw [if_neg c3]
        omega
    · rw [if_neg c2] at h
      exact absurd rfl h
theorem tkE_le {B : Nat → Int} {n p : Nat} (hp : p ≤ n) : tkE B n p ≤ n := by
  have f1 : tkF B n p ≤ n := scT_le _ _ hp
  have d2 : tkD B n p ≤ n := scT_le _ _ f1
  have g2 : tkL B n p ≤ n := scT_le _ _ f1
  unfold tkE
  split
  · exact d2
  · split
    · split
      · exact g2
      · omega
    · exact f1
/-- rows of steps as they may be -/
def StOk (I : Nat → Nat → Int) : Prop := ∀ i, (0 ≤ I 45 i ∧ I 45 i ≤ 12) ∧ (0 ≤ I 46 i ∧ I 46 i ≤ 1000)
/-- the reader at the token behind p, all well so far: l parts, m steps -/
def RdOk (B : Nat → Int) (n : Nat) (ord : Int) (I : Nat → Nat → Int) (p l m : Nat) : Prop := (I 42 = B ∧ I 43 3 = n ∧ I 43 4 = ord) ∧ (I 43 1 = -1 ∧ I 43 5 = tkC B n p ∧ I 43 6 = tkF B n p ∧ I 43 7 = tkE B n p ∧ I 43 8 = tkV B n p) ∧ (I 43 9 = l ∧ I 44 6 = m) ∧ (p ≤ n ∧ m ≤ 400 ∧ l ≤ 51) ∧ StOk I
/-- the reader behind the FAULT f -/
def RdNo (B : Nat → Int) (n : Nat) (ord : Int) (I : Nat → Nat → Int) (f : Int) : Prop := (I 42 = B ∧ I 43 3 = n ∧ I 43 4 = ord) ∧ (I 43 1 = f ∧ f ≠ -1 ∧ I 43 5 = 1002) ∧ (0 ≤ I 44 6 ∧ I 44 6 ≤ 400) ∧ StOk I
/-- what reading leaves as it is -/
def RdFr (I' I : Nat → Nat → Int) : Prop := Fr I' I 43 46 ∧ I' 44 7 = I 44 7
theorem RdFr.tr {A B C : Nat → Nat → Int} (h1 : RdFr A B) (h2 : RdFr B C) : RdFr A C := ⟨h2.1.tr h1.1, h1.2.trans h2.2⟩
theorem RdFr.rf (I : Nat → Nat → Int) : RdFr I I := ⟨fun _ _ => rfl, rfl⟩
theorem RdFr.u43 (I : Nat → Nat → Int) (i : Nat) (x : Int) : RdFr (up I 43 i x) I := ⟨fun b hb => up_na (by omega), by rw [up_na (by omega)]⟩
/-- the steps ahead of m are the same -/
def SmSt (I' I : Nat → Nat → Int) (m : Nat) : Prop := ∀ i, i < m → I' 45 i = I 45 i ∧ I' 46 i = I 46 i
theorem SmSt.tr {A B C : Nat → Nat → Int} {m k : Nat} (h1 : SmSt A B k) (h2 : SmSt B C m) (hm : m ≤ k) : SmSt A C m := fun i hi => ⟨(h1 i (by omega)).1.trans (h2 i hi).1, (h1 i (by omega)).2.trans (h2 i hi).2⟩
theorem SmSt.rf (I : Nat → Nat → Int) (m : Nat) : SmSt I I m := fun _ _ => ⟨rfl, rfl⟩
theorem tkI_na {I : Nat → Nat → Int} {B : Nat → Int} {n p b : Nat} (hb : b ≠ 43) : tkI I B n p b = I b := by
  unfold tkI
  rw [up_na hb, up_na hb, up_na hb, up_na hb]
theorem tkI_fr (I : Nat → Nat → Int) (B : Nat → Int) (n p : Nat) : RdFr (tkI I B n p) I := ⟨fun b hb => tkI_na (by omega), by rw [tkI_na (by omega)]⟩
theorem tkI_o {I : Nat → Nat → Int} {B : Nat → Int} {n p i : Nat} (hi : i ≠ 5 ∧ i ≠ 6 ∧ i ≠ 7 ∧ i ≠ 8) : tkI I B n p 43 i = I 43 i := by
  unfold tkI
  rw [up_ni hi.2.2.1, up_ni hi.1, up_ni hi.2.2.2, up_ni hi.2.1]
section P51
variable {d n : Nat} {h : IH} {I J : Nat → Nat → Int} {B : Nat → Int} {ord : Int} {p l m : Nat}
theorem RdOk.next (r : RdOk B n ord I p l m) : RdOk B n ord (tkI I B n (tkE B n p)) (tkE B n p) l m := by
  obtain ⟨⟨a1, a2, a3⟩, ⟨b1, b2, b3, b4, b5⟩, ⟨c1, c2⟩, ⟨e1, e2, e3⟩, g⟩ := r
  refine ⟨⟨by rw [tkI_na (by omega)]; exact a1, by rw [tkI_o (by omega)]; exact a2, by rw [tkI_o (by omega)]; exact a3⟩, ⟨by rw [tkI_o (by omega)]; exact b1, ?_, ?_, ?_, ?_⟩, ⟨by rw [tkI_o (by omega)]; exact c1, by rw [tkI_na (by omega)]; exact c2⟩, ⟨tkE_le e1, e2, e3⟩, fun i => by rw [tkI_na (by omega), tkI_na (by omega)]; exact g i⟩
  · unfold tkI
    rw [up_ni (by omega), up_eq]
  · unfold tkI
    rw [up_ni (by omega), up_ni (by omega), up_ni (by omega), up_eq]
  · unfold tkI
    rw [up_eq]
  · unfold tkI
    rw [up_ni (by omega), up_ni (by omega), up_eq]
theorem s_next (s : ShT h) (rb : hR h 43 2 = some 42) (hn : n ≤ 400) (hB : ∀ i, 0 ≤ B i ∧ B i ≤ 255) (r : RdOk B n ord I p l m) : rn (d + 2) 54 [iR (some 43)] (st h I J) = some (o0, st h (tkI I B n (tkE B n p)) J) :=
  s_nextToken s rb hn hB r.1.1 r.1.2.1 r.2.1.2.2.2.1 (tkE_le r.2.2.2.1.1)
theorem s_failO (s : ShT h) (r : RdOk B n ord I p l m) : rn (d + 1) 56 [iR (some 43)] (st h I J) = some (o0, st h (up (up I 43 1 (tkF B n p)) 43 5 1002) J) := by
  rw [r_Rd_fail, e_Rd_fail, ygI (aT_43 s), r.2.1.1, if_pos rfl, ygI (aT_43 s), r.2.1.2.2.1, ypI (aT_43 s) (by omega), ypI (aT_43 s) (by omega)]
theorem failO (r : RdOk B n ord I p l m) : RdNo B n ord (up (up I 43 1 (tkF B n p)) 43 5 1002) (tkF B n p) := by
  obtain ⟨⟨a1, a2, a3⟩, ⟨b1, b2, b3, b4, b5⟩, ⟨c1, c2⟩, ⟨e1, e2, e3⟩, g⟩ := r
  refine ⟨⟨by rw [up_na (by omega), up_na (by omega)]; exact a1, by rw [up_ni (by omega), up_ni (by omega)]; exact a2, by rw [up_ni (by omega), up_ni (by omega)]; exact a3⟩, ⟨by rw [up_ni (by omega), up_eq], by omega, by rw [up_eq]⟩, by rw [up_na (by omega), up_na (by omega), c2]; omega, fun i => by rw [up_na (by omega), up_na (by omega), up_na (by omega), up_na (by omega)]; exact g i⟩
theorem s_failN (s : ShT h) {f : Int} (r : RdNo B n ord I f) : rn (d + 1) 56 [iR (some 43)] (st h I J) = some (o0, st h I J) := by
  rw [r_Rd_fail, e_Rd_fail, ygI (aT_43 s), r.2.1.1, if_neg r.2.1.2.1]
theorem s_takeY (s : ShT h) (rb : hR h 43 2 = some 42) (hn : n ≤ 400) (hB : ∀ i, 0 ≤ B i ∧ B i ≤ 255) (r : RdOk B n ord I p l m) {c : Int} (hc : tkC B n p = c) : rn (d + 3) 57 [iR (some 43), iI c] (st h I J) = some (oI 1, st h (tkI I B n (tkE B n p)) J) := by
  rw [r_Rd_take, e_Rd_take, ygI (aT_43 s), r.2.1.2.1, if_pos hc, if_neg (by decide), yck (aT_43 s), s_next s rb hn hB r, kV_o, xZ_1]
theorem s_takeX (s : ShT h) {c : Int} (hc : I 43 5 ≠ c) : rn (d + 1) 57 [iR (some 43), iI c] (st h I J) = some (oI 0, st h I J) := by
  rw [r_Rd_take, e_Rd_take, ygI (aT_43 s), if_neg hc, if_pos rfl, xZ_0]
theorem s_isNumber (s : ShT h) (lo hi : Int) : rn (d + 1) 58 [iR (some 43), iI lo, iI hi] (st h I J) = some (oI (if I 43 5 = 1000 ∧ lo ≤ I 43 8 ∧ I 43 8 ≤ hi then 1 else 0), st h I J) := by
  rw [r_Rd_isNumber, e_Rd_isNumber, ygI (aT_43 s)]
  by_cases c : I 43 5 = 1000
  · rw [if_pos c, ygI (aT_43 s)]
    by_cases c2 : I 43 8 < lo
    · rw [if_pos c2, if_neg (by omega), xZ_0]
    · rw [if_neg c2, ygI (aT_43 s)]
      by_cases c3 : I 43 8 ≤ hi
      · rw [if_pos c3, if_pos (by omega), xZ_1]
      · rw [if_neg c3, if_neg (by omega), xZ_0]
  · rw [if_neg c, if_neg (fun z => c z.1), xZ_0]
theorem s_lawWord (s : ShT h) (hi : I 43 5 ≤ 2000) : rn (d + 1) 70 [iR (some 43)] (st h I J) = some (oI (if 256 ≤ I 43 5 ∧ I 43 5 ≤ 264 then I 43 5 - 256 else -1), st h I J) := by
  rw [r_Rd_lawWord, e_Rd_lawWord, ygI (aT_43 s)]
  by_cases c : I 43 5 < 256
  · rw [if_pos c, if_neg (by omega)]
  · rw [if_neg c, ygI (aT_43 s)]
    by_cases c2 : I 43 5 ≤ 264
    · rw [if_pos c2, ygI (aT_43 s), if_pos (by omega), wr_id (by omega) (by omega)]
    · rw [if_neg c2, if_neg (by omega)]
/-- the number of a word of ORDERS -/
def ordW (c : Int) : Int := if c = 263 then 0 else if c = 265 then 1 else if c = 266 then 2 else if c = 267 then 3 else if c = 268 then 4 else if c = 258 then 11 else -1
theorem s_ordersWord (s : ShT h) : rn (d + 1) 71 [iR (some 43)] (st h I J) = some (oI (ordW (I 43 5)), st h I J) := by
  rw [r_Rd_ordersWord, e_Rd_ordersWord]
  unfold ordW
  simp only [ygI (aT_43 s)]
  (repeat' split) <;> first | rfl | contradiction
/-- a step more -/
def addI (I : Nat → Nat → Int) (a b : Int) : Nat → Nat → Int := if I 44 6 < 400 then up (up (up I 45 (I 44 6).toNat a) 46 (I 44 6).toNat b) 44 6 (I 44 6 + 1) else I
theorem s_add (s : ShT h) (hm : 0 ≤ I 44 6 ∧ I 44 6 ≤ 400) (a b : Int) : rn (d + 1) 84 [iR (some 44), iI a, iI b] (st h I J) = some (o0, st h (addI I a b) J) := by
  rw [r_Tx_add, e_Tx_add, ygI (aT_44 s), ygR (aT_44 s) (aR_44_0 s), xB_s, yle (show hT h 45 < 6 by rw [aT_45 s]; decide) (aL_45 s) (by omega)]
  unfold addI
  by_cases c : I 44 6 < 400
  · rw [if_pos (by omega), if_pos c, ygR (aT_44 s) (aR_44_0 s), ygI (aT_44 s), xB_s, ysI (aT_45 s) (by omega) (aL_45 s) (by omega) (by omega), ygR (aT_44 s) (aR_44_1 s), ygI (aT_44 s), up_na (by omega), xB_s, ysI (aT_46 s) (by omega) (aL_46 s) (by omega) (by omega), ygI (aT_44 s), up_na (by omega), up_na (by omega), ypI (aT_44 s) (by omega), wr_id (by omega) (by omega)]
  · rw [if_neg (by omega), if_neg c]
theorem s_landJump (s : ShT h) (hm : 0 ≤ I 44 6 ∧ I 44 6 ≤ 400) {j : Int} (hj : 0 ≤ j ∧ j ≤ 400) : rn (d + 1) 86 [iR (some 44), iI j] (st h I J) = some (o0, st h (if j < 400 then up I 46 j.toNat (I 44 6) else I) J) := by
  rw [r_Tx_landJump, e_Tx_landJump, ygR (aT_44 s) (aR_44_1 s), xB_s, yle (show hT h 46 < 6 by rw [aT_46 s]; decide) (aL_46 s) (by omega)]
  by_cases c : j < 400
  · rw [if_pos (by omega), if_pos c, ygR (aT_44 s) (aR_44_1 s), ygI (aT_44 s), xB_s, ysI (aT_46 s) (by omega) (aL_46 s) (by omega) (by omega)]
  · rw [if_neg (by omega), if_neg c]
theorem s_setPlace (s : ShT h) {c q : Nat} (hc : c < 12) (hq : q < 4) (v : Int) : rn (d + 1) 85 [iR (some 44), iI c, iI q, iI v] (st h I J) = some (o0, st h (up (up I 49 (4 * c + q) v) 50 (4 * c + q) (I 44 6)) J) := by
  rw [r_Tx_setPlace, e_Tx_setPlace, ygR (aT_44 s) (aR_44_4 s), xB_s, wr_id (x := (c : Int) * 4) (by omega) (by omega), wr_id (by omega) (by omega), zSI (i := 4 * c + q) (aT_49 s) (by omega) (aL_49 s) (by omega) (by omega), ygR (aT_44 s) (aR_44_5 s), ygI (aT_44 s), up_na (by omega), xB_s, zSI (i := 4 * c + q) (aT_50 s) (by omega) (aL_50 s) (by omega) (by omega)]
theorem addI_fr (I : Nat → Nat → Int) (a b : Int) : RdFr (addI I a b) I := by
  unfold addI
  split
  · refine ⟨fun c hc => by rw [up_na (by omega), up_na (by omega), up_na (by omega)], by rw [up_ni (by omega), up_na (by omega), up_na (by omega)]⟩
  · exact RdFr.rf I
theorem StOk.add (g : StOk I) {a b : Int} (ha : 0 ≤ a ∧ a ≤ 12) (hb : 0 ≤ b ∧ b ≤ 1000) : StOk (addI I a b) := by
  unfold addI
  split
  · intro i
    have e1 : up (up (up I 45 (I 44 6).toNat a) 46 (I 44 6).toNat b) 44 6 (I 44 6 + 1) 45 i = if i = (I 44 6).toNat then a else I 45 i := by rw [up_na (by omega), up_na (by omega), up_at]
    have e2 : up (up (up I 45 (I 44 6).toNat a) 46 (I 44 6).toNat b) 44 6 (I 44 6 + 1) 46 i = if i = (I 44 6).toNat then b else I 46 i := by rw [up_na (by omega), up_at, up_na (by omega)]
    rw [e1, e2]
    have := g i
    (repeat' split) <;> omega
  · exact g
theorem RdNo.add {f : Int} (r : RdNo B n ord I f) {a b : Int} (ha : 0 ≤ a ∧ a ≤ 12) (hb : 0 ≤ b ∧ b ≤ 1000) : RdNo B n ord (addI I a b) f := by
  obtain ⟨⟨a1, a2, a3⟩, ⟨b1, b2, b3⟩, c, g⟩ := r
  refine ⟨?_, ?_, ?_, g.add ha hb⟩
  · unfold addI
    split
    · exact ⟨by rw [up_na (by omega), up_na (by omega), up_na (by omega)]; exact a1, by rw [up_na (by omega), up_na (by omega), up_na (by omega)]; exact a2, by rw [up_na (by omega), up_na (by omega), up_na (by omega)]; exact a3⟩
    · exact ⟨a1, a2, a3⟩
  · unfold addI
    split
    · exact ⟨by rw [up_na (by omega), up_na (by omega), up_na (by omega)]; exact b1, b2, by rw [up_na (by omega), up_na (by omega), up_na (by omega)]; exact b3⟩
    · exact ⟨b1, b2, b3⟩
  · unfold addI
    split
    · rw [up_eq]
      omega
    · exact c
/-- all well, a step is added -/
theorem RdOk.add (r : RdOk B n ord I p l m) (hm : m < 400) {a b : Int} (ha : 0 ≤ a ∧ a ≤ 12) (hb : 0 ≤ b ∧ b ≤ 1000) : RdOk B n ord (addI I a b) p l (m + 1) ∧ addI I a b = up (up (up I 45 m a) 46 m b) 44 6 ((m : Int) + 1) := by
  obtain ⟨⟨a1, a2, a3⟩, ⟨b1, b2, b3, b4, b5⟩, ⟨c1, c2⟩, ⟨e1, e2, e3⟩, g⟩ := r
  have ga := StOk.add g ha hb
  have e : addI I a b = up (up (up I 45 m a) 46 m b) 44 6 ((m : Int) + 1) := by
    unfold addI
    rw [if_pos (by omega), c2, Int.toNat_natCast]
  refine ⟨?_, e⟩
  rw [e] at ga ⊢
  have k : ∀ i, up (up (up I 45 m a) 46 m b) 44 6 ((m : Int) + 1) 43 i = I 43 i := fun i => by rw [up_na (by omega), up_na (by omega), up_na (by omega)]
  exact ⟨⟨by rw [up_na (by omega), up_na (by omega), up_na (by omega)]; exact a1, (k 3).trans a2, (k 4).trans a3⟩, ⟨(k 1).trans b1, (k 5).trans b2, (k 6).trans b3, (k 7).trans b4, (k 8).trans b5⟩, ⟨(k 9).trans c1, by rw [up_eq]; rfl⟩, ⟨e1, by omega, e3⟩, ga⟩
theorem RdOk.part (r : RdOk B n ord I p l m) (hl : l ≤ 50) : RdOk B n ord (up I 43 9 ((l : Int) + 1)) p (l + 1) m := by
  obtain ⟨⟨a1, a2, a3⟩, ⟨b1, b2, b3, b4, b5⟩, ⟨c1, c2⟩, ⟨e1, e2, e3⟩, g⟩ := r
  exact ⟨⟨by rw [up_na (by omega)]; exact a1, by rw [up_ni (by omega)]; exact a2, by rw [up_ni (by omega)]; exact a3⟩, ⟨by rw [up_ni (by omega)]; exact b1, by rw [up_ni (by omega)]; exact b2, by rw [up_ni (by omega)]; exact b3, by rw [up_ni (by omega)]; exact b4, by rw [up_ni (by omega)]; exact b5⟩, ⟨by rw [up_eq]; rfl, by rw [up_na (by omega)]; exact c2⟩, ⟨e1, e2, by omega⟩, fun i => by rw [up_na (by omega), up_na (by omega)]; exact g i⟩
theorem RdNo.part {f x : Int} (r : RdNo B n ord I f) : RdNo B n ord (up I 43 9 x) f := by
  obtain ⟨⟨a1, a2, a3⟩, ⟨b1, b2, b3⟩, c, g⟩ := r
  exact ⟨⟨by rw [up_na (by omega)]; exact a1, by rw [up_ni (by omega)]; exact a2, by rw [up_ni (by omega)]; exact a3⟩, ⟨by rw [up_ni (by omega)]; exact b1, b2, by rw [up_ni (by omega)]; exact b3⟩, by rw [up_na (by omega)]; exact c, fun i => by rw [up_na (by omega), up_na (by omega)]; exact g i⟩
end P51
theorem dgn_in {B : Nat → Int} {n : Nat} : ∀ (k p : Nat) (v : Int), 0 ≤ v ∧ v ≤ 1001 → 0 ≤ dgn B n k p v ∧ dgn B n k p v ≤ 1001
  | 0, p, v, h => h
  | k + 1, p, v, h => by
    unfold dgn
    split
    · rename_i q
      have := of_decide_eq_true q.2
      refine dgn_in k (p + 1) _ ?_
      unfold imin
      split <;> omega
    · exact h
theorem tkV_in (B : Nat → Int) (n p : Nat) : 0 ≤ tkV B n p ∧ tkV B n p ≤ 1001 := dgn_in _ _ _ (by omega)
theorem wordL_in {B : Nat → Int} {f t : Nat} : ∀ (l : List (Nat × Nat)) (w : Int), wordL B f t l w = 1002 ∨ (w ≤ wordL B f t l w ∧ wordL B f t l w < w + l.length)
  | [], w => Or.inl rfl
  | (s, n) :: l, w => by
    unfold wordL
    rw [List.length_cons]
    split
    · exact Or.inr (by omega)
    · rcases wordL_in (B := B) (f := f) (t := t) l (w + 1) with z | z
      · exact Or.inl z
      · exact Or.inr (by omega)
theorem tkC_in {B : Nat → Int} {n p : Nat} (hB : ∀ i, 0 ≤ B i ∧ B i ≤ 255) : 0 ≤ tkC B n p ∧ tkC B n p ≤ 1002 := by
  have hb := hB (tkF B n p)
  have hw := wordL_in (B := B) (f := tkF B n p) (t := tkL B n p) wordTb 256
  have hl : wordTb.length = 27 := rfl
  unfold tkC
  (repeat' split) <;> omega
