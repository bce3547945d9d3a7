/-! The class's reader: TESTS, the whole (by program, wip/whole/gen56.py) -/
section P56
variable {d n nw : Nat} {h : IH} {J : Nat → Nat → Int} {B : Nat → Int} {ord : Int}
/-- behind the row of "not" -/
theorem l_37s (s : ShT h) {I : Nat → Nat → Int} (t : Bool) {br : Int} (f : Nat) (hb : ¬ br < 8 ∨ I 43 5 ≠ 40) : lp (d + 3) 66 (f + 3) 37 [some (iR (some 43)), some (iI br), some (iI (b2i t)), none] [] (st h I J) = kV (rn (d + 3) 67 [iR (some 43), iI br] (st h I J)) fun g => cmpK d t br f g := by
  rw [e_Rd_readPlain_37]
  by_cases c : br < 8
  · rw [if_pos c, yck (aT_43 s), s_takeX s (hb.resolve_left (fun z => z c)), kI_o, if_pos rfl, yck (aT_43 s)]
    rfl
  · rw [if_neg c, yck (aT_43 s)]
    rfl
theorem l_37b (s : ShT h) (rb : hR h 43 2 = some 42) (hn : n ≤ 400) (hB : ∀ i, 0 ≤ B i ∧ B i ≤ 255) {I : Nat → Nat → Int} {p l m : Nat} (r : RdOk B n ord I p l m) (t : Bool) {br : Nat} (f : Nat) (hb : br < 8) (hc : tkC B n p = 40) : lp (d + 3) 66 (f + 1) 37 [some (iR (some 43)), some (iI (br : Int)), some (iI (b2i t)), none] [] (st h I J) = kV (rn (d + 3) 64 [iR (some 43), iI ((br + 1 : Nat) : Int)] (st h (tkI I B n (tkE B n p)) J)) fun g6 => xck g6 43 15 <| kI (rn (d + 3) 57 [iR (some 43), iI 41] g6) fun x8 g7 => if x8 = 0 then xck g7 43 15 <| kV (rn (d + 3) 56 [iR (some 43)] g7) fun g9 => turnK d t g9 else turnK d t g7 := by
  have hw : wr ((br : Int) + 1) = ((br + 1 : Nat) : Int) := by rw [wr_id (by omega) (by omega)]; rfl
  rw [e_Rd_readPlain_37, if_pos (by omega), yck (aT_43 s), s_takeY s rb hn hB r hc, kI_o, if_neg (by decide), yck (aT_43 s), hw]
  rfl
theorem plN (s : ShT h) {br : Int} {sum : Nat → Nat → RdR} (z : RdPr h J B n ord nw (fun _ => True) (fun g => rn (d + 3) 67 [iR (some 43), iI br] g) sum) {I : Nat → Nat → Int} {q : Int} (r : RdNo B n ord I q) : ∃ I', RdFr I' I ∧ rn (d + 4) 66 [iR (some 43), iI br] (st h I J) = some (o0, st h I' J) ∧ RdNo B n ord I' q := by
  obtain ⟨I1, a1, a2, a3⟩ := z.2 I q r
  have a2 : rn (d + 3) 67 [iR (some 43), iI br] (st h I J) = some (o0, st h I1 J) := a2
  obtain ⟨I2, b1, b2, b3⟩ := l_cmpN s z false 999995 a3
  refine ⟨I2, b1.tr a1, ?_, b3⟩
  have h4 : rn (d + 4) 66 [iR (some 43), iI br] (st h I J) = lp (d + 3) 66 (999995 + 3 + 1) 4 [some (iR (some 43)), some (iI br), some (iI 0), some (iI 0)] [] (st h I J) := by
    rw [r_Rd_readPlain, e_Rd_readPlain]
  rw [h4, e_Rd_readPlain_4, if_pos (by omega), yck (aT_43 s), s_takeX s (by rw [r.2.1.2.2]; decide), kI_o, if_pos rfl]
  have := l_37s (d := d) (J := J) s (I := I) false (br := br) 999995 (Or.inr (by rw [r.2.1.2.2]; decide))
  rw [show (0 : Int) = b2i false from rfl, this, a2, kV_o]
  exact b2
theorem pl_h (s : ShT h) (rb : hR h 43 2 = some 42) (hn : n ≤ 400) (hB : ∀ i, 0 ≤ B i ∧ B i ≤ 255) {br : Int} {I : Nat → Nat → Int} {p l m : Nat} (r : RdOk B n ord I p l m) : ∃ (f : Nat) (I1 : Nat → Nat → Int), RdOk B n ord I1 (aNot B n (n - p) p false).1 l m ∧ (∀ b, b ≠ 43 → I1 b = I b) ∧ (p + (if (aNot B n (n - p) p false).2 = true then 1 else 0) ≤ (aNot B n (n - p) p false).1) ∧ rn (d + 4) 66 [iR (some 43), iI br] (st h I J) = lp (d + 3) 66 (f + 3) 37 [some (iR (some 43)), some (iI br), some (iI (b2i (aNot B n (n - p) p false).2)), none] [] (st h I1 J) := by
  have rp := r.2.2.2.1.1
  obtain ⟨fu, I1, a1, a2, a3, ⟨a4, a5⟩, a6⟩ := l_not (d := d) (J := J) s rb hn hB (br := br) (n - p) p l m 0 999999 false I (Nat.le_refl _) (by omega) r (by omega)
  refine ⟨fu - 3, I1, a2, a3, ?_, ?_⟩
  · split
    · rename_i q
      have := a5 (by rw [q]; decide)
      omega
    · omega
  · rw [r_Rd_readPlain, e_Rd_readPlain, show fu - 3 + 3 = fu by omega, ← a6]
    rfl
theorem fr43 {I1 I : Nat → Nat → Int} (q : ∀ b, b ≠ 43 → I1 b = I b) : RdFr I1 I := ⟨fun b hb => q b (by omega), by rw [q 44 (by omega)]⟩
theorem pr_plain0 (s : ShT h) (rb : hR h 43 2 = some 42) (hn : n ≤ 400) (hB : ∀ i, 0 ≤ B i ∧ B i ≤ 255) {sum : Nat → Nat → RdR} (z : RdPr h J B n ord nw (fun _ => True) (fun g => rn (d + 3) 67 [iR (some 43), iI 8] g) sum) : RdPr h J B n ord nw isTst (fun g => rn (d + 4) 66 [iR (some 43), iI 8] g) (aPlain B n none sum) := by
  refine ⟨fun I p l m r hl hm => ?_, fun I q r => plN s z r⟩
  show ∃ I', RdFr I' I ∧ rn (d + 4) 66 [iR (some 43), iI 8] (st h I J) = some (o0, st h I' J) ∧ PrG B n ord nw isTst I' I p l m (aPlain B n none sum p l)
  obtain ⟨f, I1, a1, a2, a3, a4⟩ := pl_h (d := d) (J := J) s rb hn hB (br := 8) r
  obtain ⟨I2, b1, b2, b3⟩ := l_cmpO s rb hn hB z (aNot B n (n - p) p false).2 f (I0 := I) (p0 := p) a1 hl (by omega) hm (SmSt.of43 a2 m)
  rw [a4, l_37s s _ f (Or.inl (by decide)), b2]
  exact ⟨I2, b1.tr (fr43 a2), rfl, b3⟩
theorem pr_plain1 (s : ShT h) (rb : hR h 43 2 = some 42) (hn : n ≤ 400) (hB : ∀ i, 0 ≤ B i ∧ B i ≤ 255) {br : Nat} (hbr : br < 8) {sum tst : Nat → Nat → RdR} (z : RdPr h J B n ord nw (fun _ => True) (fun g => rn (d + 3) 67 [iR (some 43), iI (br : Int)] g) sum) (zt : RdPr h J B n ord nw isTst (fun g => rn (d + 3) 64 [iR (some 43), iI ((br + 1 : Nat) : Int)] g) tst) : RdPr h J B n ord nw isTst (fun g => rn (d + 4) 66 [iR (some 43), iI (br : Int)] g) (aPlain B n (some tst) sum) := by
  refine ⟨fun I p l m r hl hm => ?_, fun I q r => plN s z r⟩
  show ∃ I', RdFr I' I ∧ rn (d + 4) 66 [iR (some 43), iI (br : Int)] (st h I J) = some (o0, st h I' J) ∧ PrG B n ord nw isTst I' I p l m (aPlain B n (some tst) sum p l)
  obtain ⟨f, I1, a1, a2, a3, a4⟩ := pl_h (d := d) (J := J) s rb hn hB (br := (br : Int)) r
  generalize hq : (aNot B n (n - p) p false).1 = q at *
  generalize ht : (aNot B n (n - p) p false).2 = t at *
  by_cases c : tkC B n q = 40
  · have ea : aPlain B n (some tst) sum p l = aNegR t (aClose B n 41 (tst (tkE B n q) l)) := by
      unfold aPlain
      rw [hq, ht]
      dsimp only
      rw [if_pos c]
    have hp := tkE_lt a1.2.2.2.1.1 (show tkC B n q ≠ 1001 by omega)
    have htl : (if t = true then 1 else 0) ≤ 1 := by split <;> omega
    obtain ⟨I2, b1, b2, b3⟩ := zt.ok a1.next hl (by omega)
    have b2 : rn (d + 3) 64 [iR (some 43), iI ((br + 1 : Nat) : Int)] (st h (tkI I1 B n (tkE B n q)) J) = some (o0, st h I2 J) := b2
    have k1 := (b1.tr (tkI_fr I1 B n (tkE B n q))).tr (fr43 a2)
    rw [a4, l_37b s rb hn hB a1 t (f + 2) hbr c, b2, kV_o, yck (aT_43 s), ea]
    cases e : tst (tkE B n q) l with
    | inl x =>
      have rq := b3.1 x e
      rw [s_takeX s (by rw [rq.2.1.2.2]; decide), kI_o, if_pos rfl, yck (aT_43 s), s_failN s rq, kV_o, turn_ok s rq.2.2.1]
      exact ⟨_, (turn_fr I2 t).tr k1, rfl, PrG.bad (turn_no rq t)⟩
    | inr x =>
      obtain ⟨p', l', g⟩ := x
      obtain ⟨m', f1, f2, f3, f4, f5, f6, f7⟩ := b3.2 p' l' g e
      have hsm : SmSt I2 I m := f7.tr (SmSt.of43 (fun b hb => (tkI_na hb).trans (a2 b hb)) m) (Nat.le_refl _)
      by_cases c2 : tkC B n p' = 41
      · have hp2 := tkE_lt f1.2.2.2.1.1 (show tkC B n p' ≠ 1001 by omega)
        have e2 : aClose B n 41 (.inr (p', l', g)) = .inr (tkE B n p', l', g) := if_pos c2
        rw [s_takeY s rb hn hB f1 c2, kI_o, if_neg (by decide), turn_ok s (by rw [f1.next.2.2.1.2]; have := f1.2.2.2.1.2.1; omega), e2]
        refine ⟨_, (turn_fr _ t).tr ((tkI_fr _ _ _ _).tr k1), rfl, turn_good t hn f1.next f2 (by omega) (by omega) hm ?_ f6 (fun j hj => ⟨by rw [tkI_na (by omega)]; exact (hsm j hj).1, by rw [tkI_na (by omega)]; exact (hsm j hj).2⟩)⟩
        rw [tkI_na (by omega), tkI_na (by omega)]
        exact f5
      · have e2 : aClose B n 41 (.inr (p', l', g)) = .inl (tkF B n p') := if_neg c2
        have rf := failO f1
        rw [s_takeX s (by rw [f1.2.1.2.1]; exact c2), kI_o, if_pos rfl, yck (aT_43 s), s_failO s f1, kV_o, turn_ok s rf.2.2.1, e2]
        exact ⟨_, (turn_fr _ t).tr ((fail_fr _ _ _).tr k1), rfl, PrG.bad (turn_no rf t)⟩
  · have ea : aPlain B n (some tst) sum p l = aNegR t (aCmp B n sum q l) := by
      unfold aPlain
      rw [hq, ht]
      dsimp only
      rw [if_neg c]
    obtain ⟨I2, b1, b2, b3⟩ := l_cmpO s rb hn hB z t f (I0 := I) (p0 := p) a1 hl (by omega) hm (SmSt.of43 a2 m)
    rw [a4, l_37s s _ f (Or.inr (by rw [a1.2.1.2.1]; exact c)), b2, ea]
    exact ⟨I2, b1.tr (fr43 a2), rfl, b3⟩
/-- a TEST with r brackets to spare, r at most 8 -/
theorem pr_testR (s : ShT h) (rb : hR h 43 2 = some 42) (hn : n ≤ 400) (hB : ∀ i, 0 ≤ B i ∧ B i ≤ 255) (ho : (ord = 0 ∧ nw = 9) ∨ (ord = 1 ∧ nw = 18)) : ∀ r : Nat, r ≤ 8 → RdPr h J B n ord nw isTst (fun g => rn (d + 3 * r + 8) 64 [iR (some 43), iI ((8 - r : Nat) : Int)] g) (aTest B n ord r) := by
  intro r
  induction r with
  | zero =>
    intro _
    have z := pr_sumR (d := d) (J := J) s rb hn hB ho 0 (by omega)
    exact pr_test (d := d + 3) s rb hn hB (pr_both (d := d + 3) s rb hn hB (pr_plain0 (d := d + 2) s rb hn hB z))
  | succ r ih =>
    intro hr
    have zt := ih (by omega)
    have z := pr_sumR (d := d) (J := J) s rb hn hB ho (r + 1) hr
    have e : 8 - r = (8 - (r + 1)) + 1 := by omega
    rw [e] at zt
    exact pr_test (d := d + 3 * r + 6) s rb hn hB (pr_both (d := d + 3 * r + 6) s rb hn hB (pr_plain1 (d := d + 3 * r + 5) s rb hn hB (br := 8 - (r + 1)) (by omega) z zt))
end P56
