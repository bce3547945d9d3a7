/-! The class's reader: what CLAUSES hold (by program, wip/whole/gen57.py) -/
abbrev Pls : Type := Nat → Option Mng
/-- a place of the text is empty, or holds steps of this meaning -/
def plOk (nw : Nat) (I : Nat → Nat → Int) (a m : Nat) (x : Option Mng) : Prop := match x with
  | none => I 49 a = 0 ∧ I 50 a = 0
  | some g => ∃ f t z : Nat, I 49 a = f ∧ I 50 a = t ∧ t ≤ m ∧ z ≤ 50 ∧ sem nw (I 45) (I 46) f t z g
theorem plOk.fr {nw : Nat} {I I' : Nat → Nat → Int} {a m m' : Nat} {x : Option Mng} (h : plOk nw I a m x) (h1 : I' 49 a = I 49 a) (h2 : I' 50 a = I 50 a) (h3 : SmSt I' I m) (h4 : m ≤ m') : plOk nw I' a m' x := by
  cases x with
  | none => exact ⟨h1.trans h.1, h2.trans h.2⟩
  | some g =>
    obtain ⟨f, t, z, a1, a2, a3, a4, a5⟩ := h
    exact ⟨f, t, z, h1.trans a1, h2.trans a2, by omega, a4, a5.fr fun i _ j2 => h3 i (by omega)⟩
/-- what a reading of the clause c leaves as it is -/
def CFr (I' I : Nat → Nat → Int) (c : Nat) : Prop := Fr I' I 43 50 ∧ I' 44 7 = I 44 7 ∧ I' 47 = I 47 ∧ I' 48 = I 48 ∧ ∀ a, (a < 4 * c ∨ 4 * c + 4 ≤ a) → I' 49 a = I 49 a ∧ I' 50 a = I 50 a
theorem CFr.rf (I : Nat → Nat → Int) (c : Nat) : CFr I I c := ⟨fun _ _ => rfl, rfl, rfl, rfl, fun _ _ => ⟨rfl, rfl⟩⟩
theorem CFr.tr {A B C : Nat → Nat → Int} {c : Nat} (h1 : CFr A B c) (h2 : CFr B C c) : CFr A C c := ⟨h2.1.tr h1.1, h1.2.1.trans h2.2.1, h1.2.2.1.trans h2.2.2.1, h1.2.2.2.1.trans h2.2.2.2.1, fun a ha => ⟨(h1.2.2.2.2 a ha).1.trans (h2.2.2.2.2 a ha).1, (h1.2.2.2.2 a ha).2.trans (h2.2.2.2.2 a ha).2⟩⟩
theorem RdFr.c {I' I : Nat → Nat → Int} (h : RdFr I' I) (c : Nat) : CFr I' I c := ⟨fun b hb => h.1 b (by omega), h.2, h.1 47 (by omega), h.1 48 (by omega), fun a _ => ⟨by rw [h.1 49 (by omega)], by rw [h.1 50 (by omega)]⟩⟩
theorem CFr.set (I : Nat → Nat → Int) {c j : Nat} (hj : j < 4) (x y : Int) : CFr (up (up I 49 (4 * c + j) x) 50 (4 * c + j) y) I c :=
  ⟨fun b hb => by rw [up_na (by omega), up_na (by omega)], by rw [up_na (by omega), up_na (by omega)], by rw [up_na (by omega), up_na (by omega)], by rw [up_na (by omega), up_na (by omega)], fun a ha => ⟨by rw [up_na (by omega), up_ni (by omega)], by rw [up_ni (by omega), up_na (by omega)]⟩⟩
section P57
variable {d n nw : Nat} {h : IH} {J : Nat → Nat → Int} {B : Nat → Int} {ord : Int}
theorem RdOk.cg {I I' : Nat → Nat → Int} {p l m : Nat} (r : RdOk B n ord I p l m) (q : ∀ b, b ≤ 46 → I' b = I b) : RdOk B n ord I' p l m := by
  obtain ⟨⟨a1, a2, a3⟩, ⟨b1, b2, b3, b4, b5⟩, ⟨c1, c2⟩, e, g⟩ := r
  have q3 := q 43 (by omega)
  exact ⟨⟨by rw [q 42 (by omega)]; exact a1, by rw [q3]; exact a2, by rw [q3]; exact a3⟩, ⟨by rw [q3]; exact b1, by rw [q3]; exact b2, by rw [q3]; exact b3, by rw [q3]; exact b4, by rw [q3]; exact b5⟩, ⟨by rw [q3]; exact c1, by rw [q 44 (by omega)]; exact c2⟩, e, fun i => by rw [q 45 (by omega), q 46 (by omega)]; exact g i⟩
theorem RdNo.cg {I I' : Nat → Nat → Int} {x : Int} (r : RdNo B n ord I x) (q : ∀ b, b ≤ 46 → I' b = I b) : RdNo B n ord I' x := by
  obtain ⟨⟨a1, a2, a3⟩, ⟨b1, b2, b3⟩, c, g⟩ := r
  have q3 := q 43 (by omega)
  exact ⟨⟨by rw [q 42 (by omega)]; exact a1, by rw [q3]; exact a2, by rw [q3]; exact a3⟩, ⟨by rw [q3]; exact b1, b2, by rw [q3]; exact b3⟩, by rw [q 44 (by omega)]; exact c, fun i => by rw [q 45 (by omega), q 46 (by omega)]; exact g i⟩
/-- SUMS in a row, the word bt between them -/
def aSums (B : Nat → Int) (n : Nat) (ord bt : Int) : Nat → Nat → Nat → Nat → Pls → Sum Int (Nat × Nat × Pls)
  | 0, _, p, l, P => .inr (p, l, P)
  | k + 1, j, p, l, P => if 0 < j ∧ tkC B n p ≠ bt then .inl (tkF B n p) else match aSum B n ord 8 (if 0 < j then tkE B n p else p) l with
    | .inl q => .inl q
    | .inr (p', l', g) => aSums B n ord bt k (j + 1) p' l' (fun q => if q = j then some g else P q)
theorem aSums_s (bt : Int) (k j p l : Nat) (P : Pls) : aSums B n ord bt (k + 1) j p l P = if 0 < j ∧ tkC B n p ≠ bt then .inl (tkF B n p) else match aSum B n ord 8 (if 0 < j then tkE B n p else p) l with
    | .inl q => .inl q
    | .inr (p', l', g) => aSums B n ord bt k (j + 1) p' l' (fun q => if q = j then some g else P q) := rfl
/-- a good end of reading in the clause c -/
def ClG (B : Nat → Int) (n : Nat) (ord : Int) (nw : Nat) (I' I : Nat → Nat → Int) (c p l m : Nat) (x : Sum Int (Nat × Nat × Pls)) : Prop := (∀ q, x = .inl q → RdNo B n ord I' q) ∧ ∀ p' l' P, x = .inr (p', l', P) → ∃ m', RdOk B n ord I' p' l' m' ∧ (l ≤ l' ∧ l' ≤ 50) ∧ p ≤ p' ∧ m' + p ≤ p' + m ∧ m ≤ m' ∧ SmSt I' I m ∧ ∀ q, q < 4 → plOk nw I' (4 * c + q) m' (P q)
theorem ClG.bad {I' I : Nat → Nat → Int} {c p l m : Nat} {q : Int} (r : RdNo B n ord I' q) : ClG B n ord nw I' I c p l m (.inl q) := ⟨fun q' e => (by cases e; exact r), fun p' l' g e => (by cases e)⟩
theorem l_sumsN (s : ShT h) {sum : Nat → Nat → RdR} (z : RdPr h J B n ord nw (fun _ => True) (fun g => rn (d + 3) 67 [iR (some 43), iI 0] g) sum) {c : Nat} (hc : c < 12) {bt : Int} (hbt : bt ≠ 1002 ∨ True) {cnt : Nat} (hcnt : cnt ≤ 3) (hb1 : cnt ≤ 1 ∨ bt ≠ 1002) : ∀ (k j fu : Nat) (I : Nat → Nat → Int) (q : Int), j + k = cnt → 2 * k + 1 ≤ fu → RdNo B n ord I q → ∃ I', CFr I' I c ∧ lp (d + 3) 62 fu 3 [some (iR (some 43)), some (iI (c : Int)), some (iI (cnt : Int)), some (iI bt), some (iI (j : Int)), none] [] (st h I J) = some (o0, st h I' J) ∧ RdNo B n ord I' q := by
  intro k
  induction k with
  | zero =>
    intro j fu I q hj hfu r
    obtain ⟨fu, rfl⟩ : ∃ q, fu = q + 1 := ⟨fu - 1, by omega⟩
    exact ⟨I, CFr.rf I c, by rw [e_Rd_readSums_3, if_neg (by omega)], r⟩
  | succ k ih =>
    intro j fu I q hj hfu r
    obtain ⟨fu, rfl⟩ : ∃ q, fu = q + 2 := ⟨fu - 2, by omega⟩
    obtain ⟨I1, a1, a2, a3⟩ := z.2 I q r
    have a2 : rn (d + 3) 67 [iR (some 43), iI 0] (st h I J) = some (o0, st h I1 J) := a2
    have r2 : RdNo B n ord (up (up I1 49 (4 * c + j) (I 44 6)) 50 (4 * c + j) (I1 44 6)) q := a3.cg (fun b hb => by rw [up_na (by omega), up_na (by omega)])
    obtain ⟨I2, b1, b2, b3⟩ := ih (j + 1) fu _ q (by omega) (by omega) r2
    refine ⟨I2, b1.tr ((CFr.set I1 (by omega) _ _).tr (a1.c c)), ?_, b3⟩
    have h26 : lp (d + 3) 62 (fu + 1) 26 [some (iR (some 43)), some (iI (c : Int)), some (iI (cnt : Int)), some (iI bt), some (iI (j : Int)), none] [] (st h I J) = some (o0, st h I2 J) := by
      have hw : wr ((j : Int) + 1) = ((j + 1 : Nat) : Int) := by rw [wr_id (by omega) (by omega)]; rfl
      rw [e_Rd_readSums_26, ygR (aT_43 s) (aR_43_0 s), xB_s, ygI (aT_44 s), yck (aT_43 s), a2, kV_o, ygR (aT_43 s) (aR_43_0 s), xB_s, yck (aT_44 s), s_setPlace s hc (by omega), kV_o, hw]
      exact b2
    rw [e_Rd_readSums_3, if_pos (by omega)]
    by_cases c0 : (j : Int) ≤ 0
    · rw [if_pos c0]
      exact h26
    · rw [if_neg c0, yck (aT_43 s), s_takeX s (by rw [r.2.1.2.2]; exact fun z => (hb1.resolve_left (by omega)) z.symm), kI_o, if_pos rfl, yck (aT_43 s), s_failN s r, kV_o]
      exact h26
theorem l_sums (s : ShT h) (rb : hR h 43 2 = some 42) (hn : n ≤ 400) (hB : ∀ i, 0 ≤ B i ∧ B i ≤ 255) (z : RdPr h J B n ord nw (fun _ => True) (fun g => rn (d + 3) 67 [iR (some 43), iI 0] g) (aSum B n ord 8)) {c : Nat} (hc : c < 12) {bt : Int} {cnt : Nat} (hcnt : cnt ≤ 3) (hb1 : cnt ≤ 1 ∨ (bt ≠ 1002 ∧ bt ≠ 1001)) : ∀ (k j fu p l m : Nat) (I I0 : Nat → Nat → Int) (P : Pls) (p0 l0 m0 : Nat), j + k = cnt → 2 * k + 1 ≤ fu → RdOk B n ord I p l m → l ≤ 50 → m + p0 ≤ p + m0 → m0 ≤ p0 → p0 ≤ p → l0 ≤ l → m0 ≤ m → SmSt I I0 m0 → CFr I I0 c → (∀ q, q < 4 → plOk nw I (4 * c + q) m (P q)) → ∃ I', CFr I' I0 c ∧ lp (d + 3) 62 fu 3 [some (iR (some 43)), some (iI (c : Int)), some (iI (cnt : Int)), some (iI bt), some (iI (j : Int)), none] [] (st h I J) = some (o0, st h I' J) ∧ ClG B n ord nw I' I0 c p0 l0 m0 (aSums B n ord bt k j p l P) := by
  intro k
  induction k with
  | zero =>
    intro j fu p l m I I0 P p0 l0 m0 hj hfu r hl hm hm0 hp0 hl0 hmm hs hcf hP
    obtain ⟨fu, rfl⟩ : ∃ q, fu = q + 1 := ⟨fu - 1, by omega⟩
    refine ⟨I, hcf, by rw [e_Rd_readSums_3, if_neg (by omega)], fun q e => (by cases e), fun p' l' P' e => ?_⟩
    cases e
    exact ⟨m, r, ⟨hl0, hl⟩, hp0, hm, hmm, hs, hP⟩
  | succ k ih =>
    intro j fu p l m I I0 P p0 l0 m0 hj hfu r hl hm hm0 hp0 hl0 hmm hs hcf hP
    obtain ⟨fu, rfl⟩ : ∃ q, fu = q + 2 := ⟨fu - 2, by omega⟩
    have hw : wr ((j : Int) + 1) = ((j + 1 : Nat) : Int) := by rw [wr_id (by omega) (by omega)]; rfl
    -- one SUM, from a place on
    have one : ∀ (I1 : Nat → Nat → Int) (p1 : Nat), RdOk B n ord I1 p1 l m → p ≤ p1 → CFr I1 I0 c → SmSt I1 I0 m0 → SmSt I1 I m → I1 49 = I 49 → I1 50 = I 50 → ∃ I', CFr I' I0 c ∧ lp (d + 3) 62 (fu + 1) 26 [some (iR (some 43)), some (iI (c : Int)), some (iI (cnt : Int)), some (iI bt), some (iI (j : Int)), none] [] (st h I1 J) = some (o0, st h I' J) ∧ ClG B n ord nw I' I0 c p0 l0 m0 (match aSum B n ord 8 p1 l with
        | .inl q => .inl q
        | .inr (p', l', g) => aSums B n ord bt k (j + 1) p' l' (fun q => if q = j then some g else P q)) := by
      intro I1 p1 r1 hp1 hcf1 hs1 hsI e49 e50
      obtain ⟨I2, a1, a2, a3⟩ := z.ok r1 hl (by omega)
      have a2 : rn (d + 3) 67 [iR (some 43), iI 0] (st h I1 J) = some (o0, st h I2 J) := a2
      have cm := r1.2.2.1.2
      rw [e_Rd_readSums_26, ygR (aT_43 s) (aR_43_0 s), xB_s, ygI (aT_44 s), cm, yck (aT_43 s), a2, kV_o, ygR (aT_43 s) (aR_43_0 s), xB_s, yck (aT_44 s), s_setPlace s hc (by omega), kV_o, hw]
      have hcs := (CFr.set I2 (c := c) (j := j) (by omega) (m : Int) (I2 44 6)).tr ((a1.c c).tr hcf1)
      have cg : ∀ b, b ≤ 46 → up (up I2 49 (4 * c + j) (m : Int)) 50 (4 * c + j) (I2 44 6) b = I2 b := fun b hb => by rw [up_na (by omega), up_na (by omega)]
      cases e : aSum B n ord 8 p1 l with
      | inl q =>
        have rq := (a3.1 q e).cg cg
        obtain ⟨I3, b1, b2, b3⟩ := l_sumsN s z hc (Or.inr trivial) hcnt (hb1.imp id (fun z => z.1)) k (j + 1) fu _ q (by omega) (by omega) rq
        exact ⟨I3, b1.tr hcs, b2, ClG.bad b3⟩
      | inr x =>
        obtain ⟨p', l', g⟩ := x
        obtain ⟨m', f1, f2, f3, f4, f5, f6, f7⟩ := a3.2 p' l' g e
        have h01 := f5.1
        have cm' := f1.2.2.1.2
        have s45 : up (up I2 49 (4 * c + j) (m : Int)) 50 (4 * c + j) (I2 44 6) 45 = I2 45 := cg 45 (by omega)
        have s46 : up (up I2 49 (4 * c + j) (m : Int)) 50 (4 * c + j) (I2 44 6) 46 = I2 46 := cg 46 (by omega)
        exact ih (j + 1) fu p' l' m' _ I0 (fun q => if q = j then some g else P q) p0 l0 m0 (by omega) (by omega) (f1.cg cg) f2.2 (by omega) hm0 (by omega) (by omega) (by omega) (fun i hi => ⟨by rw [s45, (f7 i (by omega)).1]; exact (hs1 i hi).1, by rw [s46, (f7 i (by omega)).2]; exact (hs1 i hi).2⟩) hcs (fun q hq => by
          by_cases c1 : q = j
          · subst c1
            show plOk nw _ _ _ (if q = q then some g else P q)
            rw [if_pos rfl]
            refine ⟨m, m', l' - l, by rw [up_na (by omega), up_eq], by rw [up_eq, cm'], Nat.le_refl _, by omega, ?_⟩
            rw [s45, s46]
            exact f5
          · show plOk nw _ _ _ (if q = j then some g else P q)
            rw [if_neg c1]
            exact (hP q hq).fr (by rw [up_na (by omega), up_ni (by omega), a1.1 49 (by omega), e49]) (by rw [up_ni (by omega), up_na (by omega), a1.1 50 (by omega), e50]) (fun i hi => ⟨by rw [s45, (f7 i (by omega)).1]; exact (hsI i hi).1, by rw [s46, (f7 i (by omega)).2]; exact (hsI i hi).2⟩) (by omega))
    rw [e_Rd_readSums_3, if_pos (by omega)]
    by_cases c0 : (j : Int) ≤ 0
    · rw [if_pos c0]
      have ej : aSums B n ord bt (k + 1) j p l P = (match aSum B n ord 8 p l with
        | .inl q => .inl q
        | .inr (p', l', g) => aSums B n ord bt k (j + 1) p' l' (fun q => if q = j then some g else P q)) := by
        rw [aSums_s, if_neg (by omega), if_neg (by omega)]
      rw [ej]
      exact one I p r (Nat.le_refl _) hcf hs (SmSt.rf I m) rfl rfl
    · rw [if_neg c0, yck (aT_43 s)]
      have hb2 := hb1.resolve_left (by omega)
      by_cases c1 : tkC B n p = bt
      · have hp := tkE_lt r.2.2.2.1.1 (show tkC B n p ≠ 1001 by rw [c1]; exact hb2.2)
        have ej : aSums B n ord bt (k + 1) j p l P = (match aSum B n ord 8 (tkE B n p) l with
          | .inl q => .inl q
          | .inr (p', l', g) => aSums B n ord bt k (j + 1) p' l' (fun q => if q = j then some g else P q)) := by
          rw [aSums_s, if_neg (fun z => z.2 c1), if_pos (by omega)]
        rw [s_takeY s rb hn hB r c1, kI_o, if_neg (by decide), ej]
        have q43 : ∀ b, b ≠ 43 → tkI I B n (tkE B n p) b = I b := fun b hb => tkI_na hb
        exact one _ (tkE B n p) r.next (by omega) (((tkI_fr _ _ _ _).c c).tr hcf) (fun i hi => ⟨by rw [q43 45 (by omega)]; exact (hs i hi).1, by rw [q43 46 (by omega)]; exact (hs i hi).2⟩) (SmSt.of43 q43 m) (q43 49 (by omega)) (q43 50 (by omega))
      · have ej : aSums B n ord bt (k + 1) j p l P = .inl (tkF B n p) := by
          rw [aSums_s, if_pos ⟨by omega, c1⟩]
        have rf := failO r
        rw [s_takeX s (by rw [r.2.1.2.1]; exact c1), kI_o, if_pos rfl, yck (aT_43 s), s_failO s r, kV_o, ej]
        obtain ⟨I3, b1, b2, b3⟩ := l_sumsN s z hc (Or.inr trivial) hcnt (hb1.imp id (fun z => z.1)) (k + 1) j (fu + 2) _ _ hj hfu rf
        have h26 : lp (d + 3) 62 (fu + 2) 3 [some (iR (some 43)), some (iI (c : Int)), some (iI (cnt : Int)), some (iI bt), some (iI (j : Int)), none] [] (st h (up (up I 43 1 (tkF B n p)) 43 5 1002) J) = lp (d + 3) 62 (fu + 1) 26 [some (iR (some 43)), some (iI (c : Int)), some (iI (cnt : Int)), some (iI bt), some (iI (j : Int)), none] [] (st h (up (up I 43 1 (tkF B n p)) 43 5 1002) J) := by
          rw [e_Rd_readSums_3, if_pos (by omega), if_neg c0, yck (aT_43 s), s_takeX s (by rw [rf.2.1.2.2]; exact fun z => hb2.1 z.symm), kI_o, if_pos rfl, yck (aT_43 s), s_failN s rf, kV_o]
        rw [h26] at b2
        exact ⟨I3, b1.tr (((fail_fr _ _ _).c c).tr hcf), b2, ClG.bad b3⟩
end P57
