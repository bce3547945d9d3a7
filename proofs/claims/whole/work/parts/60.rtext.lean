/-! The class's reader: a whole TEXT (by program, wip/whole/gen60.py) -/
/-- the clauses that stand in the reader's text -/
def TxS (nw : Nat) (I : Nat → Nat → Int) (c m : Nat) (CL : Nat → Cls) : Prop := (∀ j, j < c → I 47 j = (CL j).1 ∧ I 48 j = (CL j).2.1 ∧ ∀ q, q < 4 → plOk nw I (4 * j + q) m ((CL j).2.2 q)) ∧ ∀ a, 4 * c ≤ a → a < 48 → I 49 a = 0 ∧ I 50 a = 0
section P60a
variable (B : Nat → Int) (n : Nat) (ord : Int)
def aTextL : Nat → Nat → Nat → Nat → (Nat → Cls) → Sum Int (Nat × (Nat → Cls))
  | 0, c, _, _, CL => .inr (c, CL)
  | k + 1, c, p, l, CL => if tkC B n p = 59 then (if 12 ≤ c then .inl (tkF B n (tkE B n p)) else match aClause B n ord (tkE B n p) l with
      | .inl q => .inl q
      | .inr (p', l', cl) => aTextL k (c + 1) p' l' (fun j => if j = c then cl else CL j))
    else if tkC B n p = 1001 then .inr (c, CL) else .inl (tkF B n p)
/-- a whole text: the FAULT, or how many clauses, and which -/
def aText : Sum Int (Nat × (Nat → Cls)) := match aClause B n ord 0 0 with
  | .inl q => .inl q
  | .inr (p, l, cl) => aTextL B n ord (n - p) 1 p l (fun _ => cl)
end P60a
/-- a good end of reading -/
def TxG (B : Nat → Int) (n : Nat) (ord : Int) (nw : Nat) (I' : Nat → Nat → Int) (x : Sum Int (Nat × (Nat → Cls))) (v : Int) : Prop := (∀ q, x = .inl q → RdNo B n ord I' q ∧ v = 0) ∧ ∀ c CL, x = .inr (c, CL) → v = 1 ∧ ∃ p l m, RdOk B n ord I' p l m ∧ I' 44 7 = ((c : Nat) : Int) ∧ (1 ≤ c ∧ c ≤ 12) ∧ TxS nw I' c m CL
section P60
variable {d n nw : Nat} {h : IH} {J I : Nat → Nat → Int} {B : Nat → Int} {ord : Int} {p l m c : Nat}
theorem l_textN (s : ShT h) {q : Int} (r : RdNo B n ord I q) (i f : Nat) : lp (d + 6) 53 (f + 1) 53 [some (iR (some 43)), none, none, none, some (iI (i : Int))] [] (st h I J) = some (oI 0, st h I J) := by
  have c5 := r.2.1.2.2
  have c1 := r.2.1.1
  have cq := r.2.1.2.1
  rw [e_Rd_readText_53]
  by_cases c : (i : Int) < 400
  · rw [if_pos c, yck (aT_43 s), s_takeX s (by rw [c5]; decide), kI_o, if_pos rfl, ygI (aT_43 s), c5, if_neg (by decide), yck (aT_43 s), s_failN s r, kV_o, ygI (aT_43 s), c1, if_neg cq, xZ_0]
  · rw [if_neg c, ygI (aT_43 s), c5, if_neg (by decide), yck (aT_43 s), s_failN s r, kV_o, ygI (aT_43 s), c1, if_neg cq, xZ_0]
theorem l_textE (s : ShT h) (r : RdOk B n ord I p l m) (hc : tkC B n p ≠ 59) (i f : Nat) : ∃ v I', RdFr I' I ∧ lp (d + 6) 53 (f + 1) 53 [some (iR (some 43)), none, none, none, some (iI (i : Int))] [] (st h I J) = some (oI v, st h I' J) ∧ (tkC B n p = 1001 → v = 1 ∧ I' = I) ∧ (tkC B n p ≠ 1001 → v = 0 ∧ RdNo B n ord I' (tkF B n p)) := by
  have c5 := r.2.1.2.1
  have c1 := r.2.1.1
  by_cases ce : tkC B n p = 1001
  · refine ⟨1, I, RdFr.rf I, ?_, fun _ => ⟨rfl, rfl⟩, fun z => absurd ce z⟩
    rw [e_Rd_readText_53]
    by_cases c : (i : Int) < 400
    · rw [if_pos c, yck (aT_43 s), s_takeX s (by rw [c5]; exact hc), kI_o, if_pos rfl, ygI (aT_43 s), c5, if_pos ce, ygI (aT_43 s), c1, if_pos rfl, xZ_1]
    · rw [if_neg c, ygI (aT_43 s), c5, if_pos ce, ygI (aT_43 s), c1, if_pos rfl, xZ_1]
  · have rf := failO r
    refine ⟨0, _, fail_fr I (tkF B n p) 1002, ?_, fun z => absurd z ce, fun _ => ⟨rfl, rf⟩⟩
    rw [e_Rd_readText_53]
    by_cases c : (i : Int) < 400
    · rw [if_pos c, yck (aT_43 s), s_takeX s (by rw [c5]; exact hc), kI_o, if_pos rfl, ygI (aT_43 s), c5, if_neg ce, yck (aT_43 s), s_failO s r, kV_o, ygI (aT_43 s), rf.2.1.1, if_neg rf.2.1.2.1, xZ_0]
    · rw [if_neg c, ygI (aT_43 s), c5, if_neg ce, yck (aT_43 s), s_failO s r, kV_o, ygI (aT_43 s), rf.2.1.1, if_neg rf.2.1.2.1, xZ_0]
/-- a clause more -/
theorem TxS.more {I' : Nat → Nat → Int} {m' : Nat} {CL : Nat → Cls} {k t : Int} {P : Pls} (h1 : TxS nw I c m CL) (hc : c < 12) (hf : QlFr I' I c) (hs : SmSt I' I m) (hm : m ≤ m') (hP : ∀ q, q < 4 → plOk nw I' (4 * c + q) m' (P q)) (hk : I' 47 c = k) (ht : I' 48 c = t) : TxS nw I' (c + 1) m' (fun j => if j = c then (k, t, P) else CL j) := by
  obtain ⟨a1, a2⟩ := h1
  obtain ⟨-, -, f3, f4⟩ := hf
  refine ⟨fun j hj => ?_, fun a ha1 ha2 => ?_⟩
  · by_cases z : j = c
    · subst z
      dsimp only
      rw [if_pos rfl]
      exact ⟨hk, ht, hP⟩
    · dsimp only
      rw [if_neg z]
      obtain ⟨b1, b2, b3⟩ := a1 j (by omega)
      refine ⟨(f3 j z).1.trans b1, (f3 j z).2.trans b2, fun q hq => (b3 q hq).fr (f4 _ (by omega)).1 (f4 _ (by omega)).2 hs hm⟩
  · rw [(f4 a (by omega)).1, (f4 a (by omega)).2]
    exact a2 a (by omega) ha2
theorem l_text (s : ShT h) (rb : hR h 43 2 = some 42) (hn : n ≤ 400) (hB : ∀ i, 0 ≤ B i ∧ B i ≤ 255) (ho : ord = 0 ∨ ord = 1) (z : RdPr h J B n ord nw (fun _ => True) (fun g => rn (d + 3) 67 [iR (some 43), iI 0] g) (aSum B n ord 8)) (zt : RdPr h J B n ord nw isTst (fun g => rn (d + 5) 64 [iR (some 43), iI 0] g) (aTest B n ord 8)) : ∀ (k c p l m i fu : Nat) (I : Nat → Nat → Int) (CL : Nat → Cls), n - p ≤ k → k + 2 ≤ fu → RdOk B n ord I p l m → l ≤ 50 → m ≤ p → i ≤ p → (1 ≤ c ∧ c ≤ 12) → I 44 7 = c → TxS nw I c m CL → ∃ v I', Fr I' I 43 50 ∧ lp (d + 6) 53 fu 53 [some (iR (some 43)), none, none, none, some (iI (i : Int))] [] (st h I J) = some (oI v, st h I' J) ∧ TxG B n ord nw I' (aTextL B n ord k c p l CL) v := by
  intro k
  induction k with
  | zero =>
    intro c p l m i fu I CL hk hfu r hl hm hi hc h7 hT
    have hpn : ¬ (tkC B n p ≠ 1001) := fun q => by
      have := tkE_lt r.2.2.2.1.1 q
      omega
    have hce : tkC B n p = 1001 := Decidable.not_not.mp hpn
    obtain ⟨fu, rfl⟩ : ∃ q, fu = q + 1 := ⟨fu - 1, by omega⟩
    obtain ⟨v, I', a1, a2, a3, -⟩ := l_textE (d := d) (J := J) s r (by rw [hce]; decide) i fu
    obtain ⟨rfl, rfl⟩ := a3 hce
    refine ⟨1, I', fun b _ => rfl, a2, fun q e => (by cases e), fun c' CL' e => ?_⟩
    cases e
    exact ⟨rfl, p, l, m, r, h7, hc, hT⟩
  | succ k ih =>
    intro c p l m i fu I CL hk hfu r hl hm hi hc h7 hT
    have rp := r.2.2.2.1.1
    obtain ⟨fu, rfl⟩ : ∃ q, fu = q + 1 := ⟨fu - 1, by omega⟩
    by_cases c1 : tkC B n p = 59
    · have hp := tkE_lt rp (show tkC B n p ≠ 1001 by omega)
      have r1 := r.next
      have q43 : ∀ b, b ≠ 43 → tkI I B n (tkE B n p) b = I b := fun b hb => tkI_na hb
      have hw : wr ((i : Int) + 1) = ((i + 1 : Nat) : Int) := by rw [wr_id (by omega) (by omega)]; rfl
      have h71 : tkI I B n (tkE B n p) 44 7 = c := by rw [q43 44 (by omega)]; exact h7
      rw [e_Rd_readText_53, if_pos (by omega), yck (aT_43 s), s_takeY s rb hn hB r c1, kI_o, if_neg (by decide), yck (aT_43 s), hw]
      have f0 : Fr (tkI I B n (tkE B n p)) I 43 50 := fun b hb => q43 b (by omega)
      by_cases c12 : 12 ≤ c
      · have e : aTextL B n ord (k + 1) c p l CL = .inl (tkF B n (tkE B n p)) := by
          show (if tkC B n p = 59 then _ else _) = _
          rw [if_pos c1, if_pos c12]
        have rf := failO r1
        obtain ⟨fu, rfl⟩ : ∃ q, fu = q + 1 := ⟨fu - 1, by omega⟩
        rw [s_clause12 s (by omega) r1, kV_o, l_textN s rf, e]
        refine ⟨0, _, fun b hb => by rw [up_na (by omega), up_na (by omega)]; exact f0 b hb, rfl, fun q e => (by cases e; exact ⟨rf, rfl⟩), fun c' CL' e => (by cases e)⟩
      · have e : aTextL B n ord (k + 1) c p l CL = (match aClause B n ord (tkE B n p) l with
          | .inl q => .inl q
          | .inr (p', l', cl) => aTextL B n ord k (c + 1) p' l' (fun j => if j = c then cl else CL j)) := by
          show (if tkC B n p = 59 then _ else _) = _
          rw [if_pos c1, if_neg c12]
        have hT1 : TxS nw (tkI I B n (tkE B n p)) c m CL := ⟨fun j hj => by
          obtain ⟨b1, b2, b3⟩ := hT.1 j hj
          exact ⟨by rw [q43 47 (by omega)]; exact b1, by rw [q43 48 (by omega)]; exact b2, fun q hq => (b3 q hq).fr (by rw [q43 49 (by omega)]) (by rw [q43 50 (by omega)]) (SmSt.of43 q43 m) (Nat.le_refl _)⟩, fun a h1 h2 => by rw [q43 49 (by omega), q43 50 (by omega)]; exact hT.2 a h1 h2⟩
        obtain ⟨I1, a1, a2, a3⟩ := s_clause (d := d) (J := J) s rb hn hB ho z zt (show c < 12 by omega) h71 r1 hl (by omega) (fun q hq => hT1.2 _ (by omega) (by omega))
        rw [a2, kV_o, e]
        have f1 : Fr I1 I 43 50 := f0.tr a1.1
        cases e1 : aClause B n ord (tkE B n p) l with
        | inl q =>
          have rq := a3.1 q e1
          obtain ⟨fu, rfl⟩ : ∃ q, fu = q + 1 := ⟨fu - 1, by omega⟩
          rw [l_textN s rq]
          exact ⟨0, I1, f1, rfl, fun q' e => (by cases e; exact ⟨rq, rfl⟩), fun c' CL' e => (by cases e)⟩
        | inr x =>
          obtain ⟨p', l', k', t', P'⟩ := x
          obtain ⟨m', g1, g2, g3, g4, g5, g6, g7, g8, g9⟩ := a3.2 p' l' k' t' P' e1
          have hT2 := hT1.more (show c < 12 by omega) a1 g6 g5 g7 g8 g9
          obtain ⟨v, I2, b1, b2, b3⟩ := ih (c + 1) p' l' m' (i + 1) fu I1 _ (by omega) (by omega) g1 g2.2 (by omega) (by omega) (by omega) a1.2.1 hT2
          exact ⟨v, I2, f1.tr b1, b2, b3⟩
    · obtain ⟨v, I', a1, a2, a3, a4⟩ := l_textE (d := d) (J := J) s r c1 i fu
      refine ⟨v, I', fun b hb => a1.1 b (by omega), a2, ?_⟩
      by_cases ce : tkC B n p = 1001
      · obtain ⟨rfl, rfl⟩ := a3 ce
        have e : aTextL B n ord (k + 1) c p l CL = .inr (c, CL) := by
          show (if tkC B n p = 59 then _ else _) = _
          rw [if_neg c1, if_pos ce]
        rw [e]
        refine ⟨fun q e => (by cases e), fun c' CL' e => ?_⟩
        cases e
        exact ⟨rfl, p, l, m, r, h7, hc, hT⟩
      · obtain ⟨rfl, rq⟩ := a4 ce
        have e : aTextL B n ord (k + 1) c p l CL = .inl (tkF B n p) := by
          show (if tkC B n p = 59 then _ else _) = _
          rw [if_neg c1, if_neg ce]
        rw [e]
        exact ⟨fun q' e => (by cases e; exact ⟨rq, rfl⟩), fun c' CL' e => (by cases e)⟩
/-- a row of ints is filled -/
theorem s_fillI {a len : Nat} (t : hT h a = 0) (a3 : 3 ≤ a) (l : hL h a = len) (hl : len ≤ 999990) (v : Int) : rn (d + 1) 305 [iR (some a), iI v] (st h I J) = some (o0, st h (fillI I a 0 len v) J) := by
  have lo : ∀ (k i n : Nat) (I : Nat → Nat → Int), i + k = len → lp d 305 (n + k + 1) 5 [some (iR (some a)), some (iI v), some (iI (i : Int)), some (iI (len : Int))] [] (st h I J) = some (o0, st h (fillI I a i len v) J) := by
    intro k
    induction k with
    | zero =>
      intro i n I hk
      have : i = len := by omega
      subst this
      rw [e_Arr_fill_1_5, if_neg (by omega), fillI_0]
    | succ k ih =>
      intro i n I hk
      rw [show n + (k + 1) + 1 = (n + k + 1) + 1 by omega, e_Arr_fill_1_5, if_pos (by omega), xB_s, ysN t a3 l (by omega), wr_id (by omega) (by omega)]
      have := ih (i + 1) n (up I a i v) (by omega)
      rw [fillI_step _ _ (by omega)] at this
      exact this
  rw [r_Arr_fill_1, e_Arr_fill_1, xB_s, yle (show hT h a < 6 by rw [t]; decide) l (by omega), show (999999 : Nat) = (999998 - len) + len + 1 by omega]
  exact lo len 0 _ I (by omega)
end P60
theorem ShT_p {h : IH} (s : ShT h) (o : Option Nat) : ShT (sR h (upR (hR h) 43 2 o)) := by
  have q : ∀ b, b ≠ 43 → hR (sR h (upR (hR h) 43 2 o)) b = hR h b := fun b z => upR_na z
  obtain ⟨g1, g3, g4, g5, g6, g7, g8, g10, ⟨r1, r2, r3, r4⟩, g12, g13, g14, g15, g16, g17, g18, g19, g21⟩ := s
  exact ⟨g1, g3, g4, La_tr g5 fun b b1 b2 => ⟨rfl, rfl, q b (by omega)⟩, La_tr g6 fun b b1 b2 => ⟨rfl, rfl, q b (by omega)⟩, La_tr g7 fun b b1 b2 => ⟨rfl, rfl, q b (by omega)⟩, g8, Tp_tr g10 fun b b1 b2 => ⟨rfl, rfl, q b (by omega)⟩, ⟨r1, r2, by show upR (hR h) 43 2 o 43 0 = _; rw [upR_ni (by omega)]; exact r3, TxRw_tr r4 fun b b1 b2 => ⟨rfl, rfl, q b (by omega)⟩⟩, Ju_tr g12 fun b b1 b2 => ⟨rfl, rfl, q b (by omega)⟩, Mo_tr g13 fun b b1 b2 => ⟨rfl, rfl, q b (by omega)⟩, Rn_tr g14 fun b b1 b2 => ⟨rfl, rfl, q b (by omega)⟩, Ps_tr g15 fun b b1 b2 => ⟨rfl, rfl, q b (by omega)⟩, Ps_tr g16 fun b b1 b2 => ⟨rfl, rfl, q b (by omega)⟩, Pa_tr g17 fun b b1 b2 => ⟨rfl, rfl, q b (by omega)⟩, Wh_tr g18 fun b b1 b2 => ⟨rfl, rfl, q b (by omega)⟩, g19, g21⟩
section P60b
variable {d n nw : Nat} {h : IH} {J I : Nat → Nat → Int} {B : Nat → Int} {ord : Int}
theorem s_clear (s : ShT h) : rn (d + 2) 83 [iR (some 44)] (st h I J) = some (o0, st h (fillI (fillI (up (up I 44 6 0) 44 7 0) 49 0 48 0) 50 0 48 0) J) := by
  rw [r_Tx_clear, e_Tx_clear, ypI (aT_44 s) (by omega), ypI (aT_44 s) (by omega), ygR (aT_44 s) (aR_44_4 s), s_fillI (aT_49 s) (by omega) (aL_49 s) (by omega), kV_o, ygR (aT_44 s) (aR_44_5 s), s_fillI (aT_50 s) (by omega) (aL_50 s) (by omega), kV_o]
/-- the reader set to its beginning -/
def rdI (I : Nat → Nat → Int) (n : Nat) (ord : Int) : Nat → Nat → Int := fillI (fillI (up (up (up (up (up (up (up I 43 3 (n : Int)) 43 4 ord) 43 1 (-1)) 43 9 0) 43 7 0) 44 6 0) 44 7 0) 49 0 48 0) 50 0 48 0
theorem s_readText (s0 : ShT h) (hn : n ≤ 400) (hB : ∀ i, 0 ≤ B i ∧ B i ≤ 255) (eB : I 42 = B) (g : StOk I) (ho : (ord = 0 ∧ nw = 9) ∨ (ord = 1 ∧ nw = 18)) : ∃ v I', Fr I' I 43 50 ∧ rn (d + 34) 53 [iR (some 43), iR (some 42), iI (n : Int), iI ord] (st h I J) = some (oI v, st (sR h (upR (hR h) 43 2 (some 42))) I' J) ∧ TxG B n ord nw I' (aText B n ord) v := by
  have s := ShT_p s0 (some 42)
  have rb : hR (sR h (upR (hR h) 43 2 (some 42))) 43 2 = some 42 := (upR_eq (hR h) 43 2 (some 42) : upR (hR h) 43 2 (some 42) 43 2 = some 42)
  generalize hh : sR h (upR (hR h) 43 2 (some 42)) = h' at *
  have ho' : ord = 0 ∨ ord = 1 := by omega
  have z : RdPr h' J B n ord nw (fun _ => True) (fun g => rn (d + 27 + 3) 67 [iR (some 43), iI 0] g) (aSum B n ord 8) := pr_sumR (d := d + 1) s rb hn hB ho 8 (by omega)
  have zt : RdPr h' J B n ord nw isTst (fun g => rn (d + 27 + 5) 64 [iR (some 43), iI 0] g) (aTest B n ord 8) := pr_testR (d := d) s rb hn hB ho 8 (by omega)
  have x43 : ∀ i, rdI I n ord 43 i = up (up (up (up (up I 43 3 (n : Int)) 43 4 ord) 43 1 (-1)) 43 9 0) 43 7 0 43 i := fun i => by
    unfold rdI
    rw [fillI_n (by omega), fillI_n (by omega), up_na (by omega), up_na (by omega)]
  have xo : ∀ b, b ≠ 43 → b ≠ 44 → b ≠ 49 → b ≠ 50 → rdI I n ord b = I b := fun b h1 h2 h3 h4 => by
    unfold rdI
    rw [fillI_n h4, fillI_n h3, up_na h2, up_na h2, up_na h1, up_na h1, up_na h1, up_na h1, up_na h1]
  have e42 : rdI I n ord 42 = B := by rw [xo 42 (by omega) (by omega) (by omega) (by omega)]; exact eB
  have e3 : rdI I n ord 43 3 = n := by rw [x43, up_ni (by omega), up_ni (by omega), up_ni (by omega), up_ni (by omega), up_eq]
  have e4 : rdI I n ord 43 4 = ord := by rw [x43, up_ni (by omega), up_ni (by omega), up_ni (by omega), up_eq]
  have e1 : rdI I n ord 43 1 = -1 := by rw [x43, up_ni (by omega), up_ni (by omega), up_eq]
  have e9 : rdI I n ord 43 9 = 0 := by rw [x43, up_ni (by omega), up_eq]
  have e7 : rdI I n ord 43 7 = ((0 : Nat) : Int) := by rw [x43, up_eq]; rfl
  have e46 : rdI I n ord 44 6 = 0 := by
    unfold rdI
    rw [fillI_n (by omega), fillI_n (by omega), up_ni (by omega), up_eq]
  have e47 : rdI I n ord 44 7 = 0 := by
    unfold rdI
    rw [fillI_n (by omega), fillI_n (by omega), up_eq]
  have z49 : ∀ a, a < 48 → rdI I n ord 49 a = 0 ∧ rdI I n ord 50 a = 0 := fun a ha => by
    unfold rdI
    exact ⟨by rw [fillI_n (by omega), fillI_e (by omega) ha], by rw [fillI_e (by omega) ha]⟩
  have f0 : Fr (rdI I n ord) I 43 50 := fun b hb => xo b (by omega) (by omega) (by omega) (by omega)
  have q43 : ∀ b, b ≠ 43 → tkI (rdI I n ord) B n 0 b = rdI I n ord b := fun b hb => tkI_na hb
  have r : RdOk B n ord (tkI (rdI I n ord) B n 0) 0 0 0 := by
    refine ⟨⟨by rw [q43 42 (by omega)]; exact e42, by rw [tkI_o (by omega)]; exact e3, by rw [tkI_o (by omega)]; exact e4⟩, ⟨by rw [tkI_o (by omega)]; exact e1, ?_, ?_, ?_, ?_⟩, ⟨by rw [tkI_o (by omega)]; exact e9, by rw [q43 44 (by omega)]; exact e46⟩, ⟨by omega, by omega, by omega⟩, fun i => by rw [q43 45 (by omega), q43 46 (by omega), xo 45 (by omega) (by omega) (by omega) (by omega), xo 46 (by omega) (by omega) (by omega) (by omega)]; exact g i⟩
    · unfold tkI
      rw [up_ni (by omega), up_eq]
    · unfold tkI
      rw [up_ni (by omega), up_ni (by omega), up_ni (by omega), up_eq]
    · unfold tkI
      rw [up_eq]
    · unfold tkI
      rw [up_ni (by omega), up_ni (by omega), up_eq]
  obtain ⟨I1, a1, a2, a3⟩ := s_clause (d := d + 27) (J := J) (c := 0) s rb hn hB ho' z zt (by omega) (by rw [q43 44 (by omega)]; exact e47) r (by omega) (by omega) (fun q hq => by rw [q43 49 (by omega), q43 50 (by omega)]; exact z49 _ (by omega))
  have hst : rn (d + 34) 53 [iR (some 43), iR (some 42), iI (n : Int), iI ord] (st h I J) = lp (d + 33) 53 999999 53 [some (iR (some 43)), none, none, none, some (iI 0)] [] (st h' I1 J) := by
    have ei : imin (n : Int) 400 = n := by
      unfold imin
      rw [if_neg (by omega)]
    have hnt := s_nextToken (d := d + 31) (J := J) s rb hn hB e42 e3 e7 (Nat.zero_le n)
    rw [r_Rd_readText, e_Rd_readText, ypR (aT_43 s0) (by omega), hh, xB_s, yle (show hT h' 42 < 6 by rw [aT_42 s]; decide) (aL_42 s) (by omega), show ((400 : Nat) : Int) = 400 from rfl, ei, ypI (aT_43 s) (by omega), ypZ (aT_43 s) (by omega) (by omega), ypI (aT_43 s) (by omega), ypI (aT_43 s) (by omega), ypI (aT_43 s) (by omega), ygR (aT_43 s) (aR_43_0 s), xB_s, yck (aT_44 s), s_clear (d := d + 31) s, kV_o, yck (aT_43 s)]
    have hnt' : rn (d + 31 + 2) 54 [iR (some 43)] (st h' (fillI (fillI (up (up (up (up (up (up (up I 43 3 (n : Int)) 43 4 ord) 43 1 (-1)) 43 9 0) 43 7 0) 44 6 0) 44 7 0) 49 0 48 0) 50 0 48 0) J) = some (o0, st h' (tkI (rdI I n ord) B n 0) J) := hnt
    rw [hnt', kV_o, yck (aT_43 s)]
    have a2' : rn (d + 33) 59 [iR (some 43)] (st h' (tkI (rdI I n ord) B n 0) J) = some (o0, st h' I1 J) := a2
    rw [a2', kV_o]
  rw [hst]
  have f1 : Fr I1 I 43 50 := (fun b hb => (a1.1 b hb).trans ((q43 b (by omega)).trans (f0 b hb)))
  unfold aText
  cases e : aClause B n ord 0 0 with
  | inl q =>
    have rq := a3.1 q e
    exact ⟨0, I1, f1, l_textN (d := d + 27) (J := J) s rq 0 999998, fun q' e => (by cases e; exact ⟨rq, rfl⟩), fun c' CL' e => (by cases e)⟩
  | inr x =>
    obtain ⟨p', l', k', t', P'⟩ := x
    obtain ⟨m', g1, g2, g3, g4, g5, g6, g7, g8, g9⟩ := a3.2 p' l' k' t' P' e
    have gp := g1.2.2.2.1.1
    have hT : TxS nw I1 1 m' (fun _ => (k', t', P')) := ⟨fun j hj => by
      have : j = 0 := by omega
      subst this
      exact ⟨g8, g9, g7⟩, fun a h1 h2 => by
      rw [(a1.2.2.2 a (by omega)).1, (a1.2.2.2 a (by omega)).2, q43 49 (by omega), q43 50 (by omega)]
      exact z49 a h2⟩
    obtain ⟨v, I2, b1, b2, b3⟩ := l_text (d := d + 27) (J := J) s rb hn hB ho' z zt (n - p') 1 p' l' m' 0 999999 I1 (fun _ => (k', t', P')) (Nat.le_refl _) (by omega) g1 g2.2 (by omega) (by omega) (by omega) a1.2.1 hT
    exact ⟨v, I2, f1.tr b1, b2, b3⟩
end P60b
