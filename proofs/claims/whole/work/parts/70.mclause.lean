/-! The reference's reader: CLAUSES (by program, wip/whole/gen70.py) -/
/-- what must follow a word -/
def bBeh (B : Nat → Int) (n : Nat) (ord bt : Int) (p l : Nat) : RdP := bnd (if tkC B n p = bt then .inr (tkE B n p, l) else .inl (tkF B n p)) fun p l => pj (aSum B n ord 8 p l)
def bIf (B : Nat → Int) (n : Nat) (ord : Int) (p l : Nat) : RdP := if tkC B n p = 279 then pj (aTest B n ord 8 (tkE B n p) l) else .inr (p, l)
def bTimes (B : Nat → Int) (n : Nat) (ord : Int) (p l : Nat) : RdP := if tkC B n p = 278 then bnd (if tkC B n (tkE B n p) = 1000 ∧ 1 ≤ tkV B n (tkE B n p) ∧ tkV B n (tkE B n p) ≤ 20 then .inr (tkE B n (tkE B n p), l) else .inl (tkF B n (tkE B n p))) (bIf B n ord) else bIf B n ord p l
section P70
variable {d n K : Nat} {h : IH} {J : Nat → Nat → Int} {B : Nat → Int} {ord : Int}
theorem q_sum (s : ShM h 88) (hB : ∀ i, 0 ≤ B i ∧ B i ≤ 255) (hn : n ≤ 400) : MdQ h J B n K ord (fun g => rn (d + 30) 197 [iR (some 88), iI 0] g) (fun p l => pj (aSum B n ord 8 p l)) := (m_sumR (d := d) (J := J) (K := K) (ord := ord) s hB hn 8 (by omega)).q
theorem q_test (s : ShM h 88) (hB : ∀ i, 0 ≤ B i ∧ B i ≤ 255) (hn : n ≤ 400) : MdQ h J B n K ord (fun g => rn (d + 33) 194 [iR (some 88), iI 0] g) (fun p l => pj (aTest B n ord 8 p l)) := (m_testR (d := d) (J := J) (K := K) (ord := ord) s hB hn 8 (by omega)).q
theorem bnd_nil (x : RdP) : bnd x (fun p l => .inr (p, l)) = x := by
  cases x with
  | inl q => rfl
  | inr y => rfl
theorem q_beh (s : ShM h 88) (hB : ∀ i, 0 ≤ B i ∧ B i ≤ 255) (hn : n ≤ 400) {m : Int} {bt : Nat} (hm : (m, bt) ∈ trPs) (hb : (bt : Int) ≠ 1001) : MdQ h J B n K ord (fun g => rn (d + 31) 191 [iR (some 88), iI m] g) (bBeh B n ord bt) :=
  MdQ.of (MdQ.ck s (MdQ.seq (MdQ.must (d := d + 27) s hn (c := m) (t := bt) (fun p => tr_p hB hm) hb) (MdQ.ck s (MdQ.seq (q_sum (d := d) s hB hn) MdQ.nil)))) (fun I => by rw [r_M_readBehind, e_M_readBehind]) |>.cg fun p l => by
    simp only [bnd_nil]
    rfl
theorem q_if (s : ShM h 88) (hB : ∀ i, 0 ≤ B i ∧ B i ≤ 255) (hn : n ≤ 400) : MdQ h J B n K ord (fun g => kI (rn (d + 33) 185 [iR (some 88), iI 4] g) fun x g1 => if x = 0 then some (o0, g1) else xck g1 88 22 <| kV (rn (d + 33) 194 [iR (some 88), iI 0] g1) fun g2 => some (o0, g2)) (fun p l => if tkC B n p = 279 then bnd (pj (aTest B n ord 8 (tkE B n p) l)) (fun p l => .inr (p, l)) else .inr (p, l)) :=
  MdQ.take (d := d + 31) s hn (c := 4) (t := 279) (fun p => tr_p hB (m := 4) (t := 279) (by simp [trPs])) (by decide) (MdQ.ck s (MdQ.seq (q_test (d := d) s hB hn) MdQ.nil)) MdQ.nil
theorem q_ifs (s : ShM h 88) (hB : ∀ i, 0 ≤ B i ∧ B i ≤ 255) (hn : n ≤ 400) : MdQ h J B n K ord (fun g => kI (rn (d + 33) 185 [iR (some 88), iI 4] g) fun x g1 => if x = 0 then some (o0, g1) else xck g1 88 22 <| kV (rn (d + 33) 194 [iR (some 88), iI 0] g1) fun g2 => some (o0, g2)) (bIf B n ord) := (q_if (d := d) s hB hn).cg fun p l => by
  rw [bnd_nil]
  rfl
def bRule (B : Nat → Int) (n : Nat) (ord : Int) (p l : Nat) : RdP := if tkC B n p = 269 then bnd (pj (aSum B n ord 8 (tkE B n p) l)) (bIf B n ord) else if tkC B n p = 270 then bnd (pj (aSum B n ord 8 (tkE B n p) l)) (bIf B n ord) else bnd (if tkC B n p = 271 then .inr (tkE B n p, l) else .inl (tkF B n p)) (bIf B n ord)
theorem q_clause (s : ShM h 88) (hB : ∀ i, 0 ≤ B i ∧ B i ≤ 255) (hn : n ≤ 400) : MdQ h J B n K ord (fun g => rn (d + 34) 190 [iR (some 88)] g) (bRule B n ord) :=
  MdQ.of (MdQ.ck s (MdQ.take (d := d + 31) s hn (c := 1) (t := 269) (fun p => tr_p hB (m := 1) (t := 269) (by simp [trPs])) (by decide) (MdQ.ck s (MdQ.seq (q_sum (d := d + 3) s hB hn) (MdQ.ck s (q_ifs (d := d) s hB hn)))) (MdQ.ck s (MdQ.take (d := d + 31) s hn (c := 2) (t := 270) (fun p => tr_p hB (m := 2) (t := 270) (by simp [trPs])) (by decide) (MdQ.ck s (MdQ.seq (q_sum (d := d + 3) s hB hn) (MdQ.ck s (q_ifs (d := d) s hB hn)))) (MdQ.ck s (MdQ.seq (MdQ.must (d := d + 30) s hn (c := 3) (t := 271) (fun p => tr_p hB (m := 3) (t := 271) (by simp [trPs])) (by decide)) (MdQ.ck s (q_ifs (d := d) s hB hn)))))))) (fun I => by rw [r_M_readClause, e_M_readClause])
end P70
