/-! The reference's reader: a whole TEXT (by program, wip/whole/gen72.py) -/
section P72a
variable {B : Nat → Int} {n : Nat} {p l : Nat}
theorem pj_sums1 (ord bt : Int) (P : Pls) : pj (aSums B n ord bt 1 0 p l P) = pj (aSum B n ord 8 p l) := by
  rw [aSums_s, if_neg (by omega), if_neg (by omega)]
  cases aSum B n ord 8 p l with
  | inl q => rfl
  | inr x => rfl
theorem pj_hd (kd : Int) (x : Sum Int (Nat × Nat × Pls)) : pj (aHd kd x) = pj x := by
  cases x with
  | inl q => rfl
  | inr x => rfl
theorem pj_beh (ord bt : Int) (k j : Nat) (hj : 0 < j) (P : Pls) : pj (aSums B n ord bt (k + 1) j p l P) = bnd (bBeh B n ord bt p l) fun p' l' => pj (aSums B n ord bt k (j + 1) p' l' (fun q => if q = j then (match aSum B n ord 8 (tkE B n p) l with
    | .inl _ => none
    | .inr (_, _, g) => some g) else P q)) := by
  rw [aSums_s]
  unfold bBeh
  by_cases c : tkC B n p = bt
  · rw [if_neg (fun z => z.2 c), if_pos hj, if_pos c]
    show _ = bnd (pj (aSum B n ord 8 (tkE B n p) l)) _
    cases aSum B n ord 8 (tkE B n p) l with
    | inl q => rfl
    | inr x => rfl
  · rw [if_pos ⟨hj, c⟩, if_neg c]
    rfl
theorem pj_sums2 (ord bt : Int) (P : Pls) : pj (aSums B n ord bt 2 0 p l P) = bnd (pj (aSum B n ord 8 p l)) (bBeh B n ord bt) := by
  rw [aSums_s, if_neg (by omega), if_neg (by omega)]
  cases aSum B n ord 8 p l with
  | inl q => rfl
  | inr x =>
    obtain ⟨p1, l1, g⟩ := x
    dsimp only
    rw [pj_beh ord bt 0 (0 + 1) (by omega)]
    show bnd (bBeh B n ord bt p1 l1) (fun p' l' => .inr (p', l')) = _
    rw [bnd_nil]
    rfl
theorem pj_sums3 (ord bt : Int) (P : Pls) : pj (aSums B n ord bt 3 0 p l P) = bnd (pj (aSum B n ord 8 p l)) (fun p l => bnd (bBeh B n ord bt p l) (bBeh B n ord bt)) := by
  rw [aSums_s, if_neg (by omega), if_neg (by omega)]
  cases aSum B n ord 8 p l with
  | inl q => rfl
  | inr x =>
    obtain ⟨p1, l1, g⟩ := x
    dsimp only
    rw [pj_beh ord bt 1 (0 + 1) (by omega)]
    show _ = bnd (bBeh B n ord bt p1 l1) (bBeh B n ord bt)
    cases bBeh B n ord bt p1 l1 with
    | inl q => rfl
    | inr y =>
      obtain ⟨p2, l2⟩ := y
      show pj (aSums B n ord bt 1 (0 + 1 + 1) p2 l2 _) = bBeh B n ord bt p2 l2
      rw [pj_beh ord bt 0 (0 + 1 + 1) (by omega)]
      show bnd (bBeh B n ord bt p2 l2) (fun p' l' => .inr (p', l')) = _
      rw [bnd_nil]
theorem pj_if (ord : Int) (P : Pls) : pj (aIf B n ord p l P) = bIf B n ord p l := by
  unfold aIf bIf
  by_cases c : tkC B n p = 279
  · rw [if_pos c, if_pos c]
    cases aTest B n ord 8 (tkE B n p) l with
    | inl q => rfl
    | inr x => rfl
  · rw [if_neg c, if_neg c]
    rfl
/-- what is behind a clause's head -/
theorem pj_clause (ord : Int) : pj (aClause B n ord p l) = bnd (pj (aHead B n ord p l)) (if ord = 0 then bIf B n ord else bTimes B n ord) := by
  unfold aClause
  cases aHead B n ord p l with
  | inl q => rfl
  | inr x =>
    obtain ⟨p1, l1, k, P⟩ := x
    show _ = (if ord = 0 then bIf B n ord else bTimes B n ord) p1 l1
    dsimp only
    unfold aOft
    by_cases c : ord = 0
    · rw [if_pos c, if_pos c]
      dsimp only
      rw [← pj_if ord P]
      cases aIf B n ord p1 l1 P with
      | inl q => rfl
      | inr x => rfl
    · rw [if_neg c, if_neg c]
      unfold aTimes bTimes
      by_cases c1 : tkC B n p1 = 278
      · rw [if_pos c1, if_pos c1]
        by_cases c2 : tkC B n (tkE B n p1) = 1000 ∧ 1 ≤ tkV B n (tkE B n p1) ∧ tkV B n (tkE B n p1) ≤ 20
        · rw [if_pos c2, if_pos c2]
          dsimp only
          show _ = bIf B n ord (tkE B n (tkE B n p1)) l1
          rw [← pj_if ord P]
          cases aIf B n ord (tkE B n (tkE B n p1)) l1 P with
          | inl q => rfl
          | inr x => rfl
        · rw [if_neg c2, if_neg c2]
          rfl
      · rw [if_neg c1, if_neg c1]
        dsimp only
        rw [← pj_if ord P]
        cases aIf B n ord p1 l1 P with
        | inl q => rfl
        | inr x => rfl
theorem bnd_as (x : RdP) (f g : Nat → Nat → RdP) : bnd (bnd x f) g = bnd x (fun p l => bnd (f p l) g) := by
  cases x with
  | inl q => rfl
  | inr y => rfl
theorem pj_rule : pj (aClause B n 0 p l) = bRule B n 0 p l := by
  rw [pj_clause, if_pos rfl]
  unfold aHead
  rw [if_pos rfl]
  unfold aRule bRule
  by_cases c1 : tkC B n p = 269
  · rw [if_pos c1, if_pos c1, pj_hd, pj_sums1]
  by_cases c2 : tkC B n p = 270
  · rw [if_neg c1, if_neg c1, if_pos c2, if_pos c2, pj_hd, pj_sums1]
  by_cases c3 : tkC B n p = 271
  · rw [if_neg c1, if_neg c1, if_neg c2, if_neg c2, if_pos c3, if_pos c3]
    rfl
  · rw [if_neg c1, if_neg c1, if_neg c2, if_neg c2, if_neg c3, if_neg c3]
    rfl
theorem pj_order : pj (aClause B n 1 p l) = bOrder B n 1 p l := by
  rw [pj_clause, if_neg (by decide)]
  unfold aHead
  rw [if_neg (by decide)]
  unfold aOrder bOrder
  by_cases c1 : tkC B n p = 272
  · rw [if_pos c1, if_pos c1, pj_hd, pj_sums2, bnd_as]
  by_cases c2 : tkC B n p = 273
  · rw [if_neg c1, if_neg c1, if_pos c2, if_pos c2, pj_hd, pj_sums3, bnd_as]
    simp only [bnd_as]
  by_cases c3 : tkC B n p = 274
  · rw [if_neg c1, if_neg c1, if_neg c2, if_neg c2, if_pos c3, if_pos c3, pj_hd, pj_sums2, bnd_as]
  by_cases c4 : tkC B n p = 275
  · rw [if_neg c1, if_neg c1, if_neg c2, if_neg c2, if_neg c3, if_neg c3, if_pos c4, if_pos c4]
    rfl
  · rw [if_neg c1, if_neg c1, if_neg c2, if_neg c2, if_neg c3, if_neg c3, if_neg c4, if_neg c4]
    rfl
theorem tkC_end (hB : ∀ i, 0 ≤ B i ∧ B i ≤ 255) : tkC B n p = 1001 ↔ ¬ tkF B n p < n := by
  have hb := hB (tkF B n p)
  have hw := wordL_in (B := B) (f := tkF B n p) (t := tkL B n p) wordTb 256
  have hl : wordTb.length = 27 := rfl
  unfold tkC
  by_cases c1 : tkF B n p < tkD B n p
  · have : tkF B n p < n := by
      have e : tkD B n p = scT dgB B n (tkF B n p) := rfl
      by_cases c : tkF B n p < n
      · exact c
      · rw [e, scT_e (fun z => c z.1)] at c1
        omega
    rw [if_pos c1]
    omega
  · rw [if_neg c1]
    by_cases c2 : tkF B n p < n
    · rw [if_pos c2]
      split <;> omega
    · rw [if_neg c2]
      omega
end P72a
section P72
variable {d n K : Nat} {h : IH} {J : Nat → Nat → Int} {B : Nat → Int} {ord : Int}
theorem MdOk.end {I : Nat → Nat → Int} {j l : Nat} (hB : ∀ i, 0 ≤ B i ∧ B i ≤ 255) (r : MdOk B n K I j l) : j < K ↔ tkC B n (posT B n j) ≠ 1001 := by
  refine ⟨fun h z => ?_, r.1.lt r.2.2.1⟩
  exact (tkC_end hB).mp z (r.1.2.1 j h).2.2.2
theorem q_one (s : ShM h 88) (hB : ∀ i, 0 ≤ B i ∧ B i ≤ 255) (hn : n ≤ 400) : MdQ h J B n K ord (fun g => rn (d + 35) 193 [iR (some 88)] g) (fun p l => pj (aClause B n ord p l)) := by
  have zr := q_clause (d := d) (h := h) (J := J) (K := K) (ord := ord) s hB hn
  have zo := q_order (d := d) (h := h) (J := J) (K := K) (ord := ord) s hB hn
  refine ⟨fun I j l lg r hl => ?_, fun I q r => ?_⟩
  · dsimp only
    rcases lg with ⟨e, a1, a2, a3⟩ | ⟨e, a1, a2, a3⟩
    · obtain ⟨I1, b1, b2, b3⟩ := zr.1 I j l (Or.inl ⟨e, a1, a2, a3⟩) r hl
      dsimp only at b2
      refine ⟨I1, b1, ?_, ?_⟩
      · rw [r_M_readOne, e_M_readOne, ygI (bT_88 s), a3, if_pos rfl, yck (bT_88 s), b2, kV_o]
      · subst e
        rw [pj_rule]
        exact b3
    · obtain ⟨I1, b1, b2, b3⟩ := zo.1 I j l (Or.inr ⟨e, a1, a2, a3⟩) r hl
      dsimp only at b2
      refine ⟨I1, b1, ?_, ?_⟩
      · rw [r_M_readOne, e_M_readOne, ygI (bT_88 s), a3, if_neg (by decide), yck (bT_88 s), b2, kV_o]
      · subst e
        rw [pj_order]
        exact b3
  · dsimp only
    by_cases c : I 88 10 = 0
    · obtain ⟨I1, b1, b2, b3⟩ := zr.2 I q r
      dsimp only at b2
      exact ⟨I1, b1, by rw [r_M_readOne, e_M_readOne, ygI (bT_88 s), if_pos c, yck (bT_88 s), b2, kV_o], b3⟩
    · obtain ⟨I1, b1, b2, b3⟩ := zo.2 I q r
      dsimp only at b2
      exact ⟨I1, b1, by rw [r_M_readOne, e_M_readOne, ygI (bT_88 s), if_neg c, yck (bT_88 s), b2, kV_o], b3⟩
/-- what reading leaves as it is -/
def MsFr (I' I : Nat → Nat → Int) : Prop := (∀ b, b ≠ 88 → I' b = I b) ∧ ∀ i, i ≠ 14 → i ≠ 19 → i ≠ 20 → i ≠ 21 → I' 88 i = I 88 i
theorem MdFr.ms {I I' : Nat → Nat → Int} (f : MdFr I' I) : MsFr I' I := ⟨f.1, fun i _ a2 a3 a4 => f.2 i a2 a3 a4⟩
theorem MsFr.f14 (I : Nat → Nat → Int) (x : Int) : MsFr (up I 88 14 x) I := ⟨fun b hb => up_na hb, fun i a1 a2 a3 a4 => up_ni a1⟩
theorem MsFr.tr {A B C : Nat → Nat → Int} (h1 : MsFr A B) (h2 : MsFr B C) : MsFr A C := ⟨fun b a1 => (h1.1 b a1).trans (h2.1 b a1), fun i a0 a1 a2 a3 => (h1.2 i a0 a1 a2 a3).trans (h2.2 i a0 a1 a2 a3)⟩
/-- how reading a text ends: the tokens stand, the FAULT is kept -/
def MtG (B : Nat → Int) (n K : Nat) (I' : Nat → Nat → Int) (x : Sum Int (Nat × (Nat → Cls))) (v : Int) : Prop := MdTk B n I' K ∧ (∀ q, x = .inl q → I' 88 14 = q ∧ v = 0) ∧ ∀ y, x = .inr y → I' 88 14 = -1 ∧ v = 1
theorem l_34N (s : ShM h 88) {I : Nat → Nat → Int} {q : Int} (r : MdNo B n K I q) (c : Int) (fu : Nat) : lp (d + 36) 200 (fu + 1) 34 [some (iR (some 88)), some (iI c)] [] (st h I J) = some (oI 0, st h (up I 88 14 q) J) := by
  rw [e_M_reads_34, s_signM (d := d + 35) _ (by omega), kI_o, yck (bT_88 s), s_takesN (d := d + 34) s r, kI_o, if_pos rfl, yck (bT_88 s), s_fine (d := d + 35) s, kI_o, if_neg (show ¬ I 88 21 = -1 by rw [r.2.1]; exact r.2.2), if_pos rfl, ygI (bT_88 s), ypI (bT_88 s) (by omega), yck (bT_88 s), s_fine (d := d + 35) s, kI_o, up_ni (by omega), if_neg (show ¬ I 88 21 = -1 by rw [r.2.1]; exact r.2.2), xZ_0, r.2.1]
theorem MdTk.f14 {I : Nat → Nat → Int} (r : MdTk B n I K) (x : Int) : MdTk B n (up I 88 14 x) K := by
  obtain ⟨⟨a1, a2⟩, b, c, d1, d2, d3⟩ := r
  refine ⟨⟨by rw [up_ni (by omega)]; exact a1, a2⟩, fun j hj => ?_, c, by rw [up_na (by omega)]; exact d1, by rw [up_na (by omega)]; exact d2, by rw [up_na (by omega)]; exact d3⟩
  rw [up_na (by omega), up_na (by omega), up_na (by omega)]
  exact b j hj
theorem l_34 (s : ShM h 88) (hB : ∀ i, 0 ≤ B i ∧ B i ≤ 255) (hn : n ≤ 400) (ho : ord = 0 ∨ ord = 1) : ∀ (k c j l fu : Nat) (I : Nat → Nat → Int) (CL : Nat → Cls), n - posT B n j ≤ k → MdLg ord I → MdOk B n K I j l → l ≤ 50 → 1 ≤ c ∧ c ≤ 12 → k + 2 ≤ fu → ∃ (v : Int) (I' : Nat → Nat → Int), MsFr I' I ∧ lp (d + 36) 200 fu 34 [some (iR (some 88)), some (iI (c : Int))] [] (st h I J) = some (oI v, st h I' J) ∧ MtG B n K I' (aTextL B n ord k c (posT B n j) l CL) v := by
  intro k
  induction k with
  | zero =>
    intro c j l fu I CL hk lg r hl hc hfu
    obtain ⟨fu, rfl⟩ : ∃ q, fu = q + 1 := ⟨fu - 1, by omega⟩
    have hF : ¬ tkF B n (posT B n j) < n := by
      have : posT B n j ≤ tkF B n (posT B n j) := scT_ge _ _ _ _
      omega
    have hE : tkC B n (posT B n j) = 1001 := (tkC_end hB).mpr hF
    have hj : ¬ j < K := fun z => (r.end hB).mp z hE
    have f21 := r.2.1.1
    refine ⟨1, up I 88 14 (-1), (MsFr.f14 _ _), ?_, r.1.f14 _, fun q e => (by cases e), fun y e => ⟨by rw [up_eq], rfl⟩⟩
    rw [e_M_reads_34, s_signM (d := d + 35) _ (by omega), kI_o, yck (bT_88 s), s_takes (d := d + 34) s hn r, if_neg (fun z => by
      have := (tr_sign hB (c := 59) (by omega)).mp z
      omega), kI_o, if_pos rfl, yck (bT_88 s), s_fine (d := d + 35) s, kI_o, if_pos f21, if_neg (by decide), ygI (bT_88 s), ygI (bT_88 s), r.2.1.2.1, r.1.1.1, if_neg (by omega), ygI (bT_88 s), f21, ypI (bT_88 s) (by omega), yck (bT_88 s), s_fine (d := d + 35) s, kI_o, up_ni (by omega), if_pos f21, xZ_1]
  | succ k ih =>
    intro c j l fu I CL hk lg r hl hc hfu
    obtain ⟨fu, rfl⟩ : ∃ q, fu = q + 1 := ⟨fu - 1, by omega⟩
    have f21 := r.2.1.1
    unfold aTextL
    by_cases c1 : tkC B n (posT B n j) = 59
    · have hj : j < K := (r.end hB).mpr (by omega)
      have hp := tkE_lt (posT_le (B := B) (n := n) j) (show tkC B n (posT B n j) ≠ 1001 by omega)
      have rn1 := r.next hj
      have f1 : MdFr (up I 88 19 ((j + 1 : Nat) : Int)) I := MdFr.u I _ (by omega)
      rw [if_pos c1]
      rw [e_M_reads_34, s_signM (d := d + 35) _ (by omega), kI_o, yck (bT_88 s), s_takes (d := d + 34) s hn r, if_pos ((tr_sign hB (c := 59) (by omega)).mpr c1), kI_o, if_neg (by decide)]
      by_cases c2 : 12 ≤ c
      · have hc12 : (c : Int) = 12 := by omega
        rw [if_pos c2, if_pos hc12, yck (bT_88 s), s_faultsO (d := d + 34) s hn rn1, kV_o, yck (bT_88 s)]
        have rf := faultsO rn1
        rw [s_fine (d := d + 35) s, kI_o, if_neg (show ¬ up (up I 88 19 ((j + 1 : Nat) : Int)) 88 21 (tkF B n (posT B n (j + 1))) 88 21 = -1 by rw [rf.2.1]; exact rf.2.2), if_pos rfl]
        obtain ⟨fu, rfl⟩ : ∃ q, fu = q + 1 := ⟨fu - 1, by omega⟩
        rw [l_34N s rf]
        exact ⟨0, _, ((MsFr.f14 _ _).tr (MdFr.u _ _ (by omega)).ms).tr f1.ms, rfl, rf.1.f14 _, fun q e => ⟨by cases e; rw [up_eq]; rfl, rfl⟩, fun y e => (by cases e)⟩
      · rw [if_neg c2, if_neg (by omega), yck (bT_88 s), s_fine (d := d + 35) s, kI_o, if_pos rn1.2.1.1, if_neg (by decide), yck (bT_88 s)]
        obtain ⟨I1, b1, b2, b3⟩ := (q_one (d := d + 1) (h := h) (J := J) (K := K) (ord := ord) s hB hn).1 _ (j + 1) l (lg.fr f1) rn1 hl
        dsimp only at b2 b3
        rw [b2, kV_o, wr_id (by omega) (by omega)]
        have e1 : posT B n (j + 1) = tkE B n (posT B n j) := rfl
        rw [e1] at b3
        cases ec : aClause B n ord (tkE B n (posT B n j)) l with
        | inl q =>
          rw [ec] at b3
          have rf := b3.1 q rfl
          obtain ⟨fu, rfl⟩ : ∃ q, fu = q + 1 := ⟨fu - 1, by omega⟩
          rw [l_34N s rf]
          exact ⟨0, _, ((MsFr.f14 _ _).tr b1.ms).tr f1.ms, rfl, rf.1.f14 _, fun q e => ⟨by cases e; rw [up_eq], rfl⟩, fun y e => (by cases e)⟩
        | inr x =>
          obtain ⟨p', l', cl⟩ := x
          rw [ec] at b3
          obtain ⟨j', g1, g2, g3, g4⟩ := b3.2 p' l' rfl
          subst g2
          have hm : tkE B n (posT B n j) ≤ posT B n j' := by
            obtain ⟨q, rfl⟩ : ∃ q, j' = (j + 1) + q := ⟨j' - (j + 1), by omega⟩
            exact posT_mono (i := j + 1) q
          obtain ⟨v, I2, d1, d2, d3⟩ := ih (c + 1) j' l' fu I1 (fun jj => if jj = c then cl else CL jj) (by omega) ((lg.fr f1).fr b1) g1 g4 (by omega) (by omega)
          exact ⟨v, I2, (d1.tr b1.ms).tr f1.ms, d2, d3⟩
    · rw [if_neg c1]
      have ht : rn (d + 36) 185 [iR (some 88), iI (100 + 59)] (st h I J) = some (oI 0, st h I J) := by
        rw [s_takes (d := d + 34) s hn r, if_neg (fun z => c1 ((tr_sign hB (c := 59) (by omega)).mp z))]
      by_cases c2 : tkC B n (posT B n j) = 1001
      · have hj : ¬ j < K := fun z => (r.end hB).mp z c2
        rw [if_pos c2]
        refine ⟨1, up I 88 14 (-1), (MsFr.f14 _ _), ?_, r.1.f14 _, fun q e => (by cases e), fun y e => ⟨by rw [up_eq], rfl⟩⟩
        rw [e_M_reads_34, s_signM (d := d + 35) _ (by omega), kI_o, yck (bT_88 s), ht, kI_o, if_pos rfl, yck (bT_88 s), s_fine (d := d + 35) s, kI_o, if_pos f21, if_neg (by decide), ygI (bT_88 s), ygI (bT_88 s), r.2.1.2.1, r.1.1.1, if_neg (by omega), ygI (bT_88 s), f21, ypI (bT_88 s) (by omega), yck (bT_88 s), s_fine (d := d + 35) s, kI_o, up_ni (by omega), if_pos f21, xZ_1]
      · have hj : j < K := (r.end hB).mpr c2
        have rf := faultsO r
        rw [if_neg c2]
        refine ⟨0, up (up I 88 21 (tkF B n (posT B n j))) 88 14 (tkF B n (posT B n j)), (MsFr.f14 _ _).tr (MdFr.u _ _ (by omega)).ms, ?_, rf.1.f14 _, fun q e => ⟨by cases e; rw [up_eq], rfl⟩, fun y e => (by cases e)⟩
        rw [e_M_reads_34, s_signM (d := d + 35) _ (by omega), kI_o, yck (bT_88 s), ht, kI_o, if_pos rfl, yck (bT_88 s), s_fine (d := d + 35) s, kI_o, if_pos f21, if_neg (by decide), ygI (bT_88 s), ygI (bT_88 s), r.2.1.2.1, r.1.1.1, if_pos (by omega), yck (bT_88 s), s_faultsO (d := d + 34) s hn r, kV_o, ygI (bT_88 s), rf.2.1, ypI (bT_88 s) (by omega), yck (bT_88 s), s_fine (d := d + 35) s, kI_o, up_ni (by omega), if_neg (by rw [rf.2.1]; exact rf.2.2), xZ_0]
/-- what reading a text leaves as it is -/
def RsFr (I' I : Nat → Nat → Int) : Prop := (∀ b, b ≠ 88 → b ≠ 97 → b ≠ 98 → b ≠ 99 → I' b = I b) ∧ ∀ i, i ≠ 8 → i ≠ 9 → i ≠ 10 → i ≠ 13 → i ≠ 14 → i ≠ 18 → i ≠ 19 → i ≠ 20 → i ≠ 21 → I' 88 i = I 88 i
theorem s_reads (s : ShM h 88) (hB : ∀ i, 0 ≤ B i ∧ B i ≤ 255) (hn : n ≤ 400) (ho : ord = 0 ∨ ord = 1) {I : Nat → Nat → Int} (lg : MdLg ord I) (en : I 88 13 = n) (eW : ∀ i, I 94 i = wordB.getD i 0) (eT : ∀ i, i < n → I 95 i = sb (B i)) : ∃ (K : Nat) (v : Int) (I' : Nat → Nat → Int), RsFr I' I ∧ rn (d + 37) 200 [iR (some 88)] (st h I J) = some (oI v, st h I' J) ∧ MtG B n K I' (aText B n ord) v ∧ I' 88 13 = 0 := by
  obtain ⟨I1, K, a1, a2, a3, a4, a5, a6⟩ := s_splits (d := d + 33) (J := J) s hB hn eW eT
  have g1 : MdTk B n (up (up (up (up I1 88 13 0) 88 19 0) 88 20 0) 88 21 (-1)) K := by
    refine ⟨⟨by rw [up_ni (by omega), up_ni (by omega), up_ni (by omega), up_ni (by omega)]; exact a3.1, a3.2⟩, fun j hj => ?_, a5, ?_⟩
    · rw [up_na (by omega), up_na (by omega), up_na (by omega), up_na (by omega), up_na (by omega), up_na (by omega), up_na (by omega), up_na (by omega), up_na (by omega), up_na (by omega), up_na (by omega), up_na (by omega)]
      exact a4 j hj
    · rw [up_na (by omega), up_na (by omega), up_na (by omega), up_na (by omega), up_na (by omega), up_na (by omega), up_na (by omega), up_na (by omega), up_na (by omega), up_na (by omega), up_na (by omega), up_na (by omega)]
      exact a6
  have g2 : MdOk B n K (up (up (up (up I1 88 13 0) 88 19 0) 88 20 0) 88 21 (-1)) 0 0 := ⟨g1, ⟨by rw [up_eq], by rw [up_ni (by omega), up_ni (by omega), up_eq]; rfl, by rw [up_ni (by omega), up_eq]; rfl⟩, Nat.zero_le _, by omega⟩
  have g3 : MdLg ord (up (up (up (up I1 88 13 0) 88 19 0) 88 20 0) 88 21 (-1)) := by
    have e : ∀ i, i = 8 ∨ i = 9 ∨ i = 10 → up (up (up (up I1 88 13 0) 88 19 0) 88 20 0) 88 21 (-1) 88 i = I 88 i := fun i hi => by
      rw [up_ni (by omega), up_ni (by omega), up_ni (by omega), up_ni (by omega), a1.2 i (by omega)]
    unfold MdLg at lg ⊢
    rw [e 8 (by omega), e 9 (by omega), e 10 (by omega)]
    exact lg
  have hd : rn (d + 37) 200 [iR (some 88)] (st h I J) = kV (rn (d + 36) 193 [iR (some 88)] (st h (up (up (up (up I1 88 13 0) 88 19 0) 88 20 0) 88 21 (-1)) J)) fun g => lp (d + 36) 200 999999 34 [some (iR (some 88)), some (iI ((1 : Nat) : Int))] [] g := by
    rw [r_M_reads, e_M_reads, ygI (bT_88 s), en, yck (bT_88 s), a2, kV_o, ypI (bT_88 s) (by omega), ypI (bT_88 s) (by omega), ypI (bT_88 s) (by omega), ypI (bT_88 s) (by omega), yck (bT_88 s)]
    rfl
  obtain ⟨I2, b1, b2, b3⟩ := (q_one (d := d + 1) (h := h) (J := J) (K := K) (ord := ord) s hB hn).1 _ 0 0 g3 g2 (by omega)
  dsimp only at b2 b3
  have e0 : posT B n 0 = 0 := rfl
  rw [e0] at b3
  have fr0 : RsFr (up (up (up (up I1 88 13 0) 88 19 0) 88 20 0) 88 21 (-1)) I := ⟨fun b q1 q2 q3 q4 => by rw [up_na q1, up_na q1, up_na q1, up_na q1]; exact a1.1 b q1 q2 q3 q4, fun i q1 q2 q3 q4 q5 q6 q7 q8 q9 => by rw [up_ni q9, up_ni q8, up_ni q7, up_ni q4]; exact a1.2 i q6⟩
  have fr : ∀ I', MsFr I' I2 → RsFr I' I := fun I' hf => ⟨fun b q1 q2 q3 q4 => by rw [(hf.tr b1.ms).1 b q1]; exact fr0.1 b q1 q2 q3 q4, fun i q1 q2 q3 q4 q5 q6 q7 q8 q9 => by rw [(hf.tr b1.ms).2 i q5 q7 q8 q9]; exact fr0.2 i q1 q2 q3 q4 q5 q6 q7 q8 q9⟩
  have f13 : ∀ I', MsFr I' I2 → I' 88 13 = 0 := fun I' hf => by
    rw [(hf.tr b1.ms).2 13 (by omega) (by omega) (by omega) (by omega), up_ni (by omega), up_ni (by omega), up_ni (by omega), up_eq]
  unfold aText
  rw [hd, b2, kV_o]
  cases ec : aClause B n ord 0 0 with
  | inl q =>
    rw [ec] at b3
    have rf := b3.1 q rfl
    have hf : MsFr (up I2 88 14 q) I2 := ⟨fun b hb => up_na hb, fun i z1 z2 z3 z4 => up_ni z1⟩
    refine ⟨K, 0, up I2 88 14 q, fr _ hf, l_34N s rf _ 999998, ⟨rf.1.f14 _, fun q e => ⟨by cases e; rw [up_eq], rfl⟩, fun y e => (by cases e)⟩, f13 _ hf⟩
  | inr x =>
    obtain ⟨p', l', cl⟩ := x
    rw [ec] at b3
    obtain ⟨j', c1, c2, c3, c4⟩ := b3.2 p' l' rfl
    subst c2
    obtain ⟨v, I3, d1, d2, d3⟩ := l_34 (d := d) (J := J) s hB hn ho (n - posT B n j') 1 j' l' 999999 I2 (fun _ => cl) (Nat.le_refl _) (g3.fr b1) c1 c4 (by omega) (by omega)
    exact ⟨K, v, I3, fr _ d1, d2, d3, f13 _ d1⟩
theorem RsFr.tr {A B C : Nat → Nat → Int} (h1 : RsFr A B) (h2 : RsFr B C) : RsFr A C := ⟨fun b q1 q2 q3 q4 => (h1.1 b q1 q2 q3 q4).trans (h2.1 b q1 q2 q3 q4), fun i q1 q2 q3 q4 q5 q6 q7 q8 q9 => (h1.2 i q1 q2 q3 q4 q5 q6 q7 q8 q9).trans (h2.2 i q1 q2 q3 q4 q5 q6 q7 q8 q9)⟩
theorem MtG_01 {I' : Nat → Nat → Int} {x : Sum Int (Nat × (Nat → Cls))} {v : Int} (h : MtG B n K I' x v) : v = 0 ∨ v = 1 := by
  cases e : x with
  | inl q => exact Or.inl (h.2.1 q e).2
  | inr y => exact Or.inr (h.2.2 y e).2
theorem s_readsAs (s : ShM h 88) (hB : ∀ i, 0 ≤ B i ∧ B i ≤ 255) (hn : n ≤ 400) (ho : ord = 0 ∨ ord = 1) {I : Nat → Nat → Int} (en : I 88 13 = n) (eW : ∀ i, I 94 i = wordB.getD i 0) (eT : ∀ i, i < n → I 95 i = sb (B i)) : ∃ (K : Nat) (v : Int) (I' : Nat → Nat → Int), RsFr I' I ∧ rn (d + 38) 201 [iR (some 88), iI ord] (st h I J) = some (oI v, st h I' J) ∧ MtG B n K I' (aText B n ord) v ∧ I' 88 13 = 0 := by
  have key : ∀ x y : Int, ∃ I0, I0 = up (up (up I 88 10 ord) 88 8 x) 88 9 y ∧ RsFr I0 I ∧ I0 88 13 = n ∧ (∀ i, I0 94 i = wordB.getD i 0) ∧ (∀ i, i < n → I0 95 i = sb (B i)) ∧ I0 88 8 = x ∧ I0 88 9 = y ∧ I0 88 10 = ord := fun x y => by
    refine ⟨_, rfl, ⟨fun b q1 q2 q3 q4 => by rw [up_na q1, up_na q1, up_na q1], fun i q1 q2 q3 q4 q5 q6 q7 q8 q9 => by rw [up_ni q2, up_ni q1, up_ni q3]⟩, ?_, ?_, ?_, ?_, ?_, ?_⟩
    · rw [up_ni (by omega), up_ni (by omega), up_ni (by omega)]; exact en
    · intro i; rw [up_na (by omega), up_na (by omega), up_na (by omega)]; exact eW i
    · intro i hi; rw [up_na (by omega), up_na (by omega), up_na (by omega)]; exact eT i hi
    · rw [up_ni (by omega), up_eq]
    · rw [up_eq]
    · rw [up_ni (by omega), up_ni (by omega), up_eq]
  rcases ho with c | c
  · obtain ⟨I0, e0, k1, k2, k3, k4, k5, k6, k7⟩ := key 8 16
    obtain ⟨K, v, I', b1, b2, b3, b4⟩ := s_reads (d := d) (J := J) s hB hn (Or.inl c) (I := I0) (Or.inl ⟨c, k5, k6, by rw [k7, c]⟩) k2 k3 k4
    refine ⟨K, v, I', b1.tr k1, ?_, b3, b4⟩
    rw [r_M_readsAs, e_M_readsAs, ypZ (bT_88 s) (by omega) (Or.inl c), if_pos c, ypI (bT_88 s) (by omega), if_pos c, ypI (bT_88 s) (by omega), ← e0, yck (bT_88 s), b2, kI_o, xZ_ok (MtG_01 b3)]
  · obtain ⟨I0, e0, k1, k2, k3, k4, k5, k6, k7⟩ := key 15 20
    obtain ⟨K, v, I', b1, b2, b3, b4⟩ := s_reads (d := d) (J := J) s hB hn (Or.inr c) (I := I0) (Or.inr ⟨c, k5, k6, by rw [k7, c]⟩) k2 k3 k4
    refine ⟨K, v, I', b1.tr k1, ?_, b3, b4⟩
    rw [r_M_readsAs, e_M_readsAs, ypZ (bT_88 s) (by omega) (Or.inr c), if_neg (by omega), ypI (bT_88 s) (by omega), if_neg (by omega), ypI (bT_88 s) (by omega), ← e0, yck (bT_88 s), b2, kI_o, xZ_ok (MtG_01 b3)]
end P72
