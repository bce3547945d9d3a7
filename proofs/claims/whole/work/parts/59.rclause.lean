/-! The class's reader: CLAUSES (by program, wip/whole/gen59.py) -/
abbrev Cls : Type := Int × Int × Pls
section P59a
variable (B : Nat → Int) (n : Nat) (ord : Int)
def aIf (p l : Nat) (P : Pls) : Sum Int (Nat × Nat × Pls) := if tkC B n p = 279 then (match aTest B n ord 8 (tkE B n p) l with
    | .inl q => .inl q
    | .inr (p', l', g) => .inr (p', l', fun q => if q = 3 then some g else P q)) else .inr (p, l, P)
def aHead (p l : Nat) : Hed := if ord = 0 then aRule B n p l else aOrder B n p l
def aOft (p : Nat) : Sum Int (Nat × Int) := if ord = 0 then .inr (p, 1) else aTimes B n p
def aClause (p l : Nat) : Sum Int (Nat × Nat × Cls) := match aHead B n ord p l with
  | .inl q => .inl q
  | .inr (p1, l1, k, P) => match aOft B n ord p1 with
    | .inl q => .inl q
    | .inr (p2, t) => match aIf B n ord p2 l1 P with
      | .inl q => .inl q
      | .inr (p3, l3, P3) => .inr (p3, l3, k, t, P3)
end P59a
/-- what stands behind "if" -/
noncomputable def ifK (d c : Nat) (g : IH) : Option IR := kI (rn (d + 3) 57 [iR (some 43), iI 279] g) fun x g1 => if x = 0 then some (o0, g1) else xgR g1 43 15 0 fun x2 => xB x2 fun a => xgI g1 a 19 6 fun x3 => xck g1 43 15 <| kV (rn (d + 3) 64 [iR (some 43), iI 0] g1) fun g2 => xgR g2 43 15 0 fun x4 => xB x4 fun a2 => xck g2 a2 19 <| kV (rn (d + 3) 85 [iR (some a2), iI (c : Int), iI 3, iI x3] g2) fun g3 => some (o0, g3)
/-- a good end of a whole clause -/
def QlG (B : Nat → Int) (n : Nat) (ord : Int) (nw : Nat) (I' I : Nat → Nat → Int) (c p l m : Nat) (x : Sum Int (Nat × Nat × Cls)) : Prop := (∀ q, x = .inl q → RdNo B n ord I' q) ∧ ∀ p' l' k t P, x = .inr (p', l', k, t, P) → ∃ m', RdOk B n ord I' p' l' m' ∧ (l ≤ l' ∧ l' ≤ 50) ∧ p < p' ∧ m' + p ≤ p' + m ∧ m ≤ m' ∧ SmSt I' I m ∧ (∀ q, q < 4 → plOk nw I' (4 * c + q) m' (P q)) ∧ I' 47 c = k ∧ I' 48 c = t
/-- what a whole clause leaves as it is -/
def QlFr (I' I : Nat → Nat → Int) (c : Nat) : Prop := Fr I' I 43 50 ∧ I' 44 7 = ((c + 1 : Nat) : Int) ∧ (∀ a, a ≠ c → I' 47 a = I 47 a ∧ I' 48 a = I 48 a) ∧ ∀ a, (a < 4 * c ∨ 4 * c + 4 ≤ a) → I' 49 a = I 49 a ∧ I' 50 a = I 50 a
section P59
variable {d n nw : Nat} {h : IH} {J I : Nat → Nat → Int} {B : Nat → Int} {ord : Int} {p l m c : Nat}
theorem QlG.bad {I' : Nat → Nat → Int} {q : Int} (r : RdNo B n ord I' q) : QlG B n ord nw I' I c p l m (.inl q) := ⟨fun q' e => (by cases e; exact r), fun p' l' k t g e => (by cases e)⟩
theorem l_ifN (s : ShT h) {q : Int} (r : RdNo B n ord I q) : ifK d c (st h I J) = some (o0, st h I J) := by
  unfold ifK
  rw [s_takeX s (by rw [r.2.1.2.2]; decide), kI_o, if_pos rfl]
theorem l_if (s : ShT h) (rb : hR h 43 2 = some 42) (hn : n ≤ 400) (hB : ∀ i, 0 ≤ B i ∧ B i ≤ 255) (zt : RdPr h J B n ord nw isTst (fun g => rn (d + 3) 64 [iR (some 43), iI 0] g) (aTest B n ord 8)) (hc : c < 12) (r : RdOk B n ord I p l m) (hl : l ≤ 50) (hm : m ≤ p) {P : Pls} (hP : ∀ q, q < 4 → plOk nw I (4 * c + q) m (P q)) : ∃ I', CFr I' I c ∧ ifK d c (st h I J) = some (o0, st h I' J) ∧ ClG B n ord nw I' I c p l m (aIf B n ord p l P) := by
  unfold ifK aIf
  by_cases c1 : tkC B n p = 279
  · have hp := tkE_lt r.2.2.2.1.1 (show tkC B n p ≠ 1001 by omega)
    have r1 := r.next
    obtain ⟨I1, a1, a2, a3⟩ := zt.ok r1 hl (by omega)
    have a2 : rn (d + 3) 64 [iR (some 43), iI 0] (st h (tkI I B n (tkE B n p)) J) = some (o0, st h I1 J) := a2
    have q43 : ∀ b, b ≠ 43 → tkI I B n (tkE B n p) b = I b := fun b hb => tkI_na hb
    have cm := r1.2.2.1.2
    have hcs := (CFr.set I1 (c := c) (j := 3) (by omega) (m : Int) (I1 44 6)).tr ((a1.c c).tr ((tkI_fr I B n (tkE B n p)).c c))
    have cg : ∀ b, b ≤ 46 → up (up I1 49 (4 * c + 3) (m : Int)) 50 (4 * c + 3) (I1 44 6) b = I1 b := fun b hb => by rw [up_na (by omega), up_na (by omega)]
    have hs := s_setPlace (d := d + 2) (J := J) (I := I1) s hc (show 3 < 4 by omega) (m : Int)
    have hs : rn (d + 3) 85 [iR (some 44), iI (c : Int), iI 3, iI (m : Int)] (st h I1 J) = some (o0, st h (up (up I1 49 (4 * c + 3) (m : Int)) 50 (4 * c + 3) (I1 44 6)) J) := hs
    rw [if_pos c1, s_takeY s rb hn hB r c1, kI_o, if_neg (by decide), ygR (aT_43 s) (aR_43_0 s), xB_s, ygI (aT_44 s), cm, yck (aT_43 s), a2, kV_o, ygR (aT_43 s) (aR_43_0 s), xB_s, yck (aT_44 s), hs, kV_o]
    refine ⟨_, hcs, rfl, ?_⟩
    cases e : aTest B n ord 8 (tkE B n p) l with
    | inl q => exact ClG.bad ((a3.1 q e).cg cg)
    | inr x =>
      obtain ⟨p', l', g⟩ := x
      obtain ⟨m', f1, f2, f3, f4, f5, f6, f7⟩ := a3.2 p' l' g e
      have h01 := f5.1
      have cm' := f1.2.2.1.2
      have s45 : up (up I1 49 (4 * c + 3) (m : Int)) 50 (4 * c + 3) (I1 44 6) 45 = I1 45 := cg 45 (by omega)
      have s46 : up (up I1 49 (4 * c + 3) (m : Int)) 50 (4 * c + 3) (I1 44 6) 46 = I1 46 := cg 46 (by omega)
      have hsm : SmSt (up (up I1 49 (4 * c + 3) (m : Int)) 50 (4 * c + 3) (I1 44 6)) I m := fun i hi => ⟨by rw [s45, (f7 i hi).1, q43 45 (by omega)], by rw [s46, (f7 i hi).2, q43 46 (by omega)]⟩
      refine ⟨fun q' e => (by cases e), fun p2 l2 P2 e2 => ?_⟩
      cases e2
      refine ⟨m', f1.cg cg, ⟨by omega, f2.2⟩, by omega, by omega, by omega, hsm, fun q hq => ?_⟩
      by_cases c2 : q = 3
      · subst c2
        show plOk nw _ _ _ (if 3 = 3 then some g else P 3)
        rw [if_pos rfl]
        refine ⟨m, m', l' - l, by rw [up_na (by omega), up_eq], by rw [up_eq, cm'], Nat.le_refl _, by omega, ?_⟩
        rw [s45, s46]
        exact f5
      · show plOk nw _ _ _ (if q = 3 then some g else P q)
        rw [if_neg c2]
        exact (hP q hq).fr (by rw [up_na (by omega), up_ni (by omega), a1.1 49 (by omega), q43 49 (by omega)]) (by rw [up_ni (by omega), up_na (by omega), a1.1 50 (by omega), q43 50 (by omega)]) hsm (by omega)
  · rw [if_neg c1, s_takeX s (by rw [r.2.1.2.1]; exact c1), kI_o, if_pos rfl]
    refine ⟨I, CFr.rf I c, rfl, fun q' e => (by cases e), fun p2 l2 P2 e2 => ?_⟩
    cases e2
    exact ⟨m, r, ⟨Nat.le_refl _, hl⟩, Nat.le_refl _, by omega, Nat.le_refl _, SmSt.rf I m, hP⟩
theorem RdOk.c7 {x : Int} (r : RdOk B n ord I p l m) : RdOk B n ord (up I 44 7 x) p l m := by
  obtain ⟨⟨a1, a2, a3⟩, ⟨b1, b2, b3, b4, b5⟩, ⟨c1, c2⟩, e, g⟩ := r
  exact ⟨⟨by rw [up_na (by omega)]; exact a1, by rw [up_na (by omega)]; exact a2, by rw [up_na (by omega)]; exact a3⟩, ⟨by rw [up_na (by omega)]; exact b1, by rw [up_na (by omega)]; exact b2, by rw [up_na (by omega)]; exact b3, by rw [up_na (by omega)]; exact b4, by rw [up_na (by omega)]; exact b5⟩, ⟨by rw [up_na (by omega)]; exact c1, by rw [up_ni (by omega)]; exact c2⟩, e, fun i => by rw [up_na (by omega), up_na (by omega)]; exact g i⟩
/-- a clause's beginning: it is counted, once by itself -/
def clI (I : Nat → Nat → Int) (c : Nat) : Nat → Nat → Int := up (up I 44 7 ((c + 1 : Nat) : Int)) 48 c 1
theorem clI_q (I : Nat → Nat → Int) (c : Nat) {I' : Nat → Nat → Int} (h : KFr I' (clI I c) c) : QlFr I' I c := by
  obtain ⟨h1, h2, h3, h4⟩ := h
  unfold clI at *
  refine ⟨fun b hb => by rw [h1 b hb, up_na (by omega), up_na (by omega)], by rw [h2, up_na (by omega), up_eq], fun a ha => ⟨by rw [(h3 a ha).1, up_na (by omega), up_na (by omega)], by rw [(h3 a ha).2, up_ni ha, up_na (by omega)]⟩, fun a ha => ⟨by rw [(h4 a ha).1, up_na (by omega), up_na (by omega)], by rw [(h4 a ha).2, up_na (by omega), up_na (by omega)]⟩⟩
theorem cl_head (s : ShT h) (hc : c < 12) (h7 : I 44 7 = c) (h4 : I 43 4 = ord) : rn (d + 6) 59 [iR (some 43)] (st h I J) = (if ord = 0 then kV (rn (d + 5) 60 [iR (some 43), iI (c : Int)] (st h (clI I c) J)) fun g => xck g 43 15 <| ifK (d + 2) c g else kV (rn (d + 5) 61 [iR (some 43), iI (c : Int)] (st h (clI I c) J)) fun g => xck g 43 15 <| kV (rn (d + 5) 63 [iR (some 43), iI (c : Int)] g) fun g2 => xck g2 43 15 <| ifK (d + 2) c g2) := by
  have hw : wr ((c : Int) + 1) = ((c + 1 : Nat) : Int) := by rw [wr_id (by omega) (by omega)]; rfl
  rw [r_Rd_readClause, e_Rd_readClause, ygR (aT_43 s) (aR_43_0 s), xB_s, ygI (aT_44 s), h7, if_pos (by omega), ygR (aT_43 s) (aR_43_0 s), xB_s, ygI (aT_44 s), h7, ygR (aT_43 s) (aR_43_0 s), xB_s, ygI (aT_44 s), h7, xB_s, ypI (aT_44 s) (by omega), hw, ygR (aT_43 s) (aR_43_0 s), xB_s, ygR (aT_44 s) (aR_44_3 s), xB_s, ysN (aT_48 s) (by omega) (aL_48 s) hc, ygI (aT_43 s), up_na (by omega), up_na (by omega), h4]
  by_cases c0 : ord = 0
  · rw [if_pos c0, if_pos c0, yck (aT_43 s)]
    rfl
  · rw [if_neg c0, if_neg c0, yck (aT_43 s)]
    rfl
theorem s_clause12 (s : ShT h) (h7 : ¬ I 44 7 < 12) (r : RdOk B n ord I p l m) : rn (d + 6) 59 [iR (some 43)] (st h I J) = some (o0, st h (up (up I 43 1 (tkF B n p)) 43 5 1002) J) := by
  rw [r_Rd_readClause, e_Rd_readClause, ygR (aT_43 s) (aR_43_0 s), xB_s, ygI (aT_44 s), if_neg h7, yck (aT_43 s), s_failO s r, kV_o]
theorem s_clause (s : ShT h) (rb : hR h 43 2 = some 42) (hn : n ≤ 400) (hB : ∀ i, 0 ≤ B i ∧ B i ≤ 255) (ho : ord = 0 ∨ ord = 1) (z : RdPr h J B n ord nw (fun _ => True) (fun g => rn (d + 3) 67 [iR (some 43), iI 0] g) (aSum B n ord 8)) (zt : RdPr h J B n ord nw isTst (fun g => rn (d + 5) 64 [iR (some 43), iI 0] g) (aTest B n ord 8)) (hc : c < 12) (h7 : I 44 7 = c) (r : RdOk B n ord I p l m) (hl : l ≤ 50) (hm : m ≤ p) (hz : ∀ q, q < 4 → I 49 (4 * c + q) = 0 ∧ I 50 (4 * c + q) = 0) : ∃ I', QlFr I' I c ∧ rn (d + 6) 59 [iR (some 43)] (st h I J) = some (o0, st h I' J) ∧ QlG B n ord nw I' I c p l m (aClause B n ord p l) := by
  have r0 : RdOk B n ord (clI I c) p l m := r.c7.cg (fun b hb => up_na (by omega))
  have hz0 : ∀ q, q < 4 → clI I c 49 (4 * c + q) = 0 ∧ clI I c 50 (4 * c + q) = 0 := fun q hq => by
    unfold clI
    rw [up_na (by omega), up_na (by omega), up_na (by omega), up_na (by omega)]
    exact hz q hq
  have h48 : clI I c 48 c = 1 := up_eq _ _ _ _
  have hs0 : SmSt (clI I c) I m := fun i _ => ⟨by unfold clI; rw [up_na (by omega), up_na (by omega)], by unfold clI; rw [up_na (by omega), up_na (by omega)]⟩
  rw [cl_head s hc h7 r.1.2.2]
  -- the end: "if", from a good head on
  have fin : ∀ (I1 : Nat → Nat → Int) (p1 p2 l1 m1 : Nat) (k t : Int) (P : Pls), KFr I1 (clI I c) c → RdOk B n ord I1 p2 l1 m1 → (l ≤ l1 ∧ l1 ≤ 50) → p < p1 → p1 ≤ p2 → m1 + p ≤ p1 + m → m ≤ m1 → SmSt I1 (clI I c) m → (∀ q, q < 4 → plOk nw I1 (4 * c + q) m1 (P q)) → I1 47 c = k → I1 48 c = t → ∃ I', QlFr I' I c ∧ ifK (d + 2) c (st h I1 J) = some (o0, st h I' J) ∧ QlG B n ord nw I' I c p l m (match aIf B n ord p2 l1 P with
      | .inl q => .inl q
      | .inr (p3, l3, P3) => .inr (p3, l3, k, t, P3)) := by
    intro I1 p1 p2 l1 m1 k t P k1 r1 hl1 hp1 hp2 hm1 hm2 hs1 hP hk ht
    obtain ⟨I2, a1, a2, a3⟩ := l_if (d := d + 2) (J := J) s rb hn hB zt hc r1 hl1.2 (by omega) hP
    refine ⟨I2, clI_q I c (a1.k.tr k1), a2, ?_⟩
    cases e : aIf B n ord p2 l1 P with
    | inl q => exact QlG.bad (a3.1 q e)
    | inr x =>
      obtain ⟨p3, l3, P3⟩ := x
      obtain ⟨m3, f1, f2, f3, f4, f5, f6, f7⟩ := a3.2 p3 l3 P3 e
      refine ⟨fun q' e => (by cases e), fun p' l' k' t' P' e2 => ?_⟩
      cases e2
      exact ⟨m3, f1, ⟨by omega, f2.2⟩, by omega, by omega, by omega, fun i hi => ⟨((f6 i (by omega)).1.trans (hs1 i hi).1).trans (hs0 i hi).1, ((f6 i (by omega)).2.trans (hs1 i hi).2).trans (hs0 i hi).2⟩, f7, by rw [a1.2.2.1]; exact hk, by rw [a1.2.2.2.1]; exact ht⟩
  unfold aClause aHead aOft
  rcases ho with h0 | h1
  · subst h0
    obtain ⟨I1, a1, a2, a3⟩ := s_rule (d := d) (J := J) s rb hn hB z hc r0 hl hm hz0
    rw [if_pos rfl, if_pos rfl, a2, kV_o, yck (aT_43 s)]
    cases e : aRule B n p l with
    | inl q =>
      have rq := a3.1 q e
      exact ⟨I1, clI_q I c a1, l_ifN s rq, QlG.bad rq⟩
    | inr x =>
      obtain ⟨p1, l1, k, P⟩ := x
      obtain ⟨m1, f1, f2, f3, f4, f5, f6, f7, f8, f9⟩ := a3.2 p1 l1 k P e
      dsimp only
      rw [if_pos rfl]
      exact fin I1 p1 p1 l1 m1 k 1 P a1 f1 f2 f3 (Nat.le_refl _) f4 f5 f6 f7 f8 (by rw [f9]; exact h48)
  · subst h1
    obtain ⟨I1, a1, a2, a3⟩ := s_order (d := d) (J := J) s rb hn hB z hc r0 hl hm hz0
    rw [if_neg (by decide), if_neg (by decide), a2, kV_o, yck (aT_43 s)]
    cases e : aOrder B n p l with
    | inl q =>
      have rq := a3.1 q e
      have ht := s_timesN (d := d + 1) (J := J) s rq c
      have ht : rn (d + 5) 63 [iR (some 43), iI (c : Int)] (st h I1 J) = some (o0, st h I1 J) := ht
      rw [ht, kV_o, yck (aT_43 s)]
      exact ⟨I1, clI_q I c a1, l_ifN s rq, QlG.bad rq⟩
    | inr x =>
      obtain ⟨p1, l1, k, P⟩ := x
      obtain ⟨m1, f1, f2, f3, f4, f5, f6, f7, f8, f9⟩ := a3.2 p1 l1 k P e
      obtain ⟨I2, g1, g2, g3, g4, g5⟩ := s_times (d := d + 1) (J := J) s rb hn hB hc f1 (by omega) (by rw [f9]; exact h48)
      have g3 : rn (d + 5) 63 [iR (some 43), iI (c : Int)] (st h I1 J) = some (o0, st h I2 J) := g3
      rw [g3, kV_o, yck (aT_43 s)]
      dsimp only
      rw [if_neg (by decide)]
      cases e2 : aTimes B n p1 with
      | inl q =>
        have rq := g4 q e2
        exact ⟨I2, clI_q I c (g1.tr a1), l_ifN s rq, QlG.bad rq⟩
      | inr y =>
        obtain ⟨p2, t⟩ := y
        obtain ⟨k1, k2, k3⟩ := g5 p2 t e2
        have hsm : SmSt I2 I1 m1 := fun i _ => ⟨by rw [g2 45 (by omega) (by omega)], by rw [g2 46 (by omega) (by omega)]⟩
        exact fin I2 p1 p2 l1 m1 k t P (g1.tr a1) k1 f2 f3 k2 f4 f5 (fun i hi => ⟨(hsm i (by omega)).1.trans (f6 i hi).1, (hsm i (by omega)).2.trans (f6 i hi).2⟩) (fun q hq => (f7 q hq).fr (by rw [g2 49 (by omega) (by omega)]) (by rw [g2 50 (by omega) (by omega)]) hsm (Nat.le_refl _)) (by rw [g2 47 (by omega) (by omega)]; exact f8) k3
end P59
