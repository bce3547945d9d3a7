/-! The reference's reader: CLAUSES (by program, wip/whole/gen69.py) -/
abbrev RdP : Type := Sum Int (Nat × Nat)
def pj {α : Type} : Sum Int (Nat × Nat × α) → RdP
  | .inl q => .inl q
  | .inr (p, l, _) => .inr (p, l)
def bnd : RdP → (Nat → Nat → RdP) → RdP
  | .inl q, _ => .inl q
  | .inr (p, l), f => f p l
/-- a good end of reading, places alone -/
def MdH (B : Nat → Int) (n K : Nat) (I' : Nat → Nat → Int) (j : Nat) (x : RdP) : Prop := (∀ q, x = .inl q → MdNo B n K I' q) ∧ ∀ p' l', x = .inr (p', l') → ∃ j', MdOk B n K I' j' l' ∧ posT B n j' = p' ∧ j ≤ j' ∧ l' ≤ 50
def MdQ (h : IH) (J : Nat → Nat → Int) (B : Nat → Int) (n K : Nat) (ord : Int) (run : IH → Option IR) (f : Nat → Nat → RdP) : Prop :=
  (∀ (I : Nat → Nat → Int) (j l : Nat), MdLg ord I → MdOk B n K I j l → l ≤ 50 → ∃ I', MdFr I' I ∧ run (st h I J) = some (o0, st h I' J) ∧ MdH B n K I' j (f (posT B n j) l)) ∧
  ∀ (I : Nat → Nat → Int) (q : Int), MdNo B n K I q → ∃ I', MdFr I' I ∧ run (st h I J) = some (o0, st h I' J) ∧ MdNo B n K I' q
section P69
variable {d n K : Nat} {h : IH} {J : Nat → Nat → Int} {B : Nat → Int} {ord : Int} {run r1 r2 : IH → Option IR} {f f1 f2 : Nat → Nat → RdP}
theorem MdH.bad {I' : Nat → Nat → Int} {j : Nat} {q : Int} (r : MdNo B n K I' q) : MdH B n K I' j (.inl q) := ⟨fun q' e => (by cases e; exact r), fun p' l' e => (by cases e)⟩
theorem MdH.fine {I' : Nat → Nat → Int} {j j' l' : Nat} (r : MdOk B n K I' j' l') (h1 : j ≤ j') (h2 : l' ≤ 50) : MdH B n K I' j (.inr (posT B n j', l')) := ⟨fun q' e => (by cases e), fun p2 l2 e => (by cases e; exact ⟨j', r, rfl, h1, h2⟩)⟩
theorem MdH.le {I' : Nat → Nat → Int} {j j0 : Nat} {x : RdP} (a : MdH B n K I' j x) (hj : j0 ≤ j) : MdH B n K I' j0 x := ⟨a.1, fun p' l' e => by
  obtain ⟨j', c1, c2, c3, c4⟩ := a.2 p' l' e
  exact ⟨j', c1, c2, by omega, c4⟩⟩
theorem MdPr.q {g : Nat → Nat → RdR} (z : MdPr h J B n K ord run g) : MdQ h J B n K ord run (fun p l => pj (g p l)) := by
  refine ⟨fun I j l lg r hl => ?_, z.2⟩
  obtain ⟨I1, a1, a2, a3⟩ := z.1 I j l lg r hl
  refine ⟨I1, a1, a2, ?_⟩
  dsimp only
  cases e : g (posT B n j) l with
  | inl q => exact MdH.bad (a3.1 q e)
  | inr x =>
    obtain ⟨p', l', m⟩ := x
    obtain ⟨j', c1, c2, c3, c4⟩ := a3.2 p' l' m e
    subst c2
    exact MdH.fine c1 c3 c4
theorem MdQ.of (z : MdQ h J B n K ord r1 f) (e : ∀ I, run (st h I J) = r1 (st h I J)) : MdQ h J B n K ord run f :=
  ⟨fun I j l lg r hl => by rw [e I]; exact z.1 I j l lg r hl, fun I q r => by rw [e I]; exact z.2 I q r⟩
theorem MdQ.cg (z : MdQ h J B n K ord run f1) (e : ∀ p l, f p l = f1 p l) : MdQ h J B n K ord run f :=
  ⟨fun I j l lg r hl => by rw [e]; exact z.1 I j l lg r hl, z.2⟩
theorem MdQ.nil : MdQ h J B n K ord (fun g => some (o0, g)) (fun p l => .inr (p, l)) :=
  ⟨fun I j l _ r hl => ⟨I, MdFr.rf I, rfl, MdH.fine r (Nat.le_refl _) hl⟩, fun I q r => ⟨I, MdFr.rf I, rfl, r⟩⟩
theorem MdQ.ck (s : ShM h 88) (z : MdQ h J B n K ord run f) : MdQ h J B n K ord (fun g => xck g 88 22 (run g)) f :=
  z.of fun I => yck (bT_88 s)
theorem MdQ.seq (z1 : MdQ h J B n K ord r1 f1) (z2 : MdQ h J B n K ord r2 f2) : MdQ h J B n K ord (fun g => kV (r1 g) fun g2 => r2 g2) (fun p l => bnd (f1 p l) f2) := by
  refine ⟨fun I j l lg r hl => ?_, fun I q r => ?_⟩
  · obtain ⟨I1, a1, a2, a3⟩ := z1.1 I j l lg r hl
    dsimp only
    rw [a2, kV_o]
    cases e : f1 (posT B n j) l with
    | inl q =>
      obtain ⟨I2, b1, b2, b3⟩ := z2.2 I1 q (a3.1 q e)
      exact ⟨I2, b1.tr a1, b2, MdH.bad b3⟩
    | inr x =>
      obtain ⟨p', l'⟩ := x
      obtain ⟨j', c1, c2, c3, c4⟩ := a3.2 p' l' e
      subst c2
      obtain ⟨I2, b1, b2, b3⟩ := z2.1 I1 j' l' (lg.fr a1) c1 c4
      exact ⟨I2, b1.tr a1, b2, b3.le c3⟩
  · obtain ⟨I1, a1, a2, a3⟩ := z1.2 I q r
    obtain ⟨I2, b1, b2, b3⟩ := z2.2 I1 q a3
    dsimp only
    rw [a2, kV_o]
    exact ⟨I2, b1.tr a1, b2, b3⟩
/-- a word or a sign that may stand there -/
theorem MdQ.take (s : ShM h 88) (hn : n ≤ 400) {c t : Int} (hm : ∀ p, cdM B n p = c ↔ tkC B n p = t) (ht : t ≠ 1001) (z1 : MdQ h J B n K ord r1 f1) (z2 : MdQ h J B n K ord r2 f2) : MdQ h J B n K ord (fun g => kI (rn (d + 2) 185 [iR (some 88), iI c] g) fun x g1 => if x = 0 then r2 g1 else r1 g1) (fun p l => if tkC B n p = t then f1 (tkE B n p) l else f2 p l) := by
  refine ⟨fun I j l lg r hl => ?_, fun I q r => ?_⟩
  · dsimp only
    rw [s_takes s hn r]
    by_cases c1 : tkC B n (posT B n j) = t
    · have hj := r.1.lt r.2.2.1 (show tkC B n (posT B n j) ≠ 1001 by rw [c1]; exact ht)
      have f0 := MdFr.u I ((j + 1 : Nat) : Int) (i := 19) (by omega)
      obtain ⟨I1, a1, a2, a3⟩ := z1.1 _ (j + 1) l (lg.fr f0) (r.next hj) hl
      rw [if_pos ((hm _).mpr c1), kI_o, if_neg (by decide), if_pos c1]
      exact ⟨I1, a1.tr f0, a2, a3.le (by omega)⟩
    · rw [if_neg (fun q => c1 ((hm _).mp q)), kI_o, if_pos rfl, if_neg c1]
      exact z2.1 I j l lg r hl
  · dsimp only
    rw [s_takesN s r, kI_o, if_pos rfl]
    exact z2.2 I q r
/-- a word or a sign that must stand there -/
theorem MdQ.must (s : ShM h 88) (hn : n ≤ 400) {c t : Int} (hm : ∀ p, cdM B n p = c ↔ tkC B n p = t) (ht : t ≠ 1001) : MdQ h J B n K ord (fun g => rn (d + 3) 186 [iR (some 88), iI c] g) (fun p l => if tkC B n p = t then .inr (tkE B n p, l) else .inl (tkF B n p)) := by
  refine ⟨fun I j l lg r hl => ?_, fun I q r => ⟨I, MdFr.rf I, s_mustN s r c, r⟩⟩
  dsimp only
  rw [s_must s hn r]
  by_cases c1 : tkC B n (posT B n j) = t
  · have hj := r.1.lt r.2.2.1 (show tkC B n (posT B n j) ≠ 1001 by rw [c1]; exact ht)
    rw [if_pos ((hm _).mpr c1), if_pos c1]
    exact ⟨_, MdFr.u I _ (by omega), rfl, MdH.fine (r.next hj) (by omega) hl⟩
  · rw [if_neg (fun q => c1 ((hm _).mp q)), if_neg c1]
    exact ⟨_, MdFr.u I _ (by omega), rfl, MdH.bad (faultsO r)⟩
/-- a number that must stand there -/
theorem MdQ.num (s : ShM h 88) (hB : ∀ i, 0 ≤ B i ∧ B i ≤ 255) (hn : n ≤ 400) {lo hi : Int} (hlo : 0 ≤ lo) (hhi : hi ≤ 1000) : MdQ h J B n K ord (fun g => rn (d + 3) 189 [iR (some 88), iI lo, iI hi] g) (fun p l => if tkC B n p = 1000 ∧ lo ≤ tkV B n p ∧ tkV B n p ≤ hi then .inr (tkE B n p, l) else .inl (tkF B n p)) := by
  refine ⟨fun I j l lg r hl => ?_, fun I q r => ⟨I, MdFr.rf I, ?_, r⟩⟩
  · obtain ⟨I1, a1, a2, a3, a4⟩ := s_mustNumber (d := d) (J := J) s hB hn r hlo hhi
    refine ⟨I1, a1, a2, ?_⟩
    dsimp only
    by_cases c : tkC B n (posT B n j) = 1000 ∧ lo ≤ tkV B n (posT B n j) ∧ tkV B n (posT B n j) ≤ hi
    · rw [if_pos c]
      exact MdH.fine (a3 c) (by omega) hl
    · rw [if_neg c]
      exact MdH.bad (a4 c)
  · show rn (d + 3) 189 [iR (some 88), iI lo, iI hi] (st h I J) = some (o0, st h I J)
    rw [r_M_mustNumber, e_M_mustNumber, yck (bT_88 s), s_fine s, kI_o, if_neg (show ¬ I 88 21 = -1 by rw [r.2.1]; exact r.2.2), if_pos rfl, yck (bT_88 s), s_fine s, kI_o, if_neg (show ¬ I 88 21 = -1 by rw [r.2.1]; exact r.2.2), if_pos rfl]
end P69
