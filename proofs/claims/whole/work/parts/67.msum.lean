/-! The reference's reader: SUMS, the whole (by program, wip/whole/gen67.py) -/
section P67
variable {d n K : Nat} {h : IH} {J : Nat → Nat → Int} {B : Nat → Int} {ord : Int}
theorem m_rows (s : ShM h 88) (hB : ∀ i, 0 ≤ B i ∧ B i ≤ 255) (hn : n ≤ 400) {op : Int → Int} (h1 : op 1001 = 0) {run top : IH → Option IR} {it : Nat → Nat → RdR} (z : MdPr h J B n K ord run it) {L : Nat → IH → Option IR}
    (hst : ∀ (I : Nat → Nat → Int) (j l f : Nat), MdOk B n K I j l → op (tkC B n (posT B n j)) = 0 → L (f + 1) (st h I J) = some (o0, st h I J))
    (hsN : ∀ (I : Nat → Nat → Int) (q : Int) (f : Nat), MdNo B n K I q → L (f + 1) (st h I J) = some (o0, st h I J))
    (hgo : ∀ (I : Nat → Nat → Int) (j l f : Nat), MdOk B n K I j l → op (tkC B n (posT B n j)) ≠ 0 → L (f + 1) (st h I J) = kV (run (st h (up I 88 19 ((j + 1 : Nat) : Int)) J)) fun g => L f g)
    (htop : ∀ I, top (st h I J) = kV (run (st h I J)) fun g => L 999999 g) : MdPr h J B n K ord top (rwRows B n op it) := by
  refine ⟨fun I j l g r hl => ?_, fun I q r => ?_⟩
  · obtain ⟨I1, a1, a2, a3⟩ := z.1 I j l g r hl
    rw [htop, a2, kV_o]
    unfold rwRows
    cases e : it (posT B n j) l with
    | inl q =>
      have rq := a3.1 q e
      exact ⟨I1, a1, hsN I1 q 999998 rq, MdG.bad rq⟩
    | inr x =>
      obtain ⟨p', l', f⟩ := x
      obtain ⟨j', c1, c2, c3, c4⟩ := a3.2 p' l' f e
      subst c2
      obtain ⟨I2, d1, d2, d3⟩ := m_row s hB hn h1 z hst hsN hgo (j0 := j) (n - posT B n j') j' l' 999999 I1 f (Nat.le_refl _) (by omega) (g.fr a1) c1 c4 c3
      exact ⟨I2, d1.tr a1, d2, d3⟩
  · obtain ⟨I1, a1, a2, a3⟩ := z.2 I q r
    refine ⟨I1, a1, ?_, a3⟩
    rw [htop, a2, kV_o]
    exact hsN I1 q 999998 a3
theorem m_term (s : ShM h 88) (hB : ∀ i, 0 ≤ B i ∧ B i ≤ 255) (hn : n ≤ 400) {br : Int} {it : Nat → Nat → RdR} (z : MdPr h J B n K ord (fun g => rn (d + 4) 199 [iR (some 88), iI br] g) it) : MdPr h J B n K ord (fun g => rn (d + 5) 198 [iR (some 88), iI br] g) (rwRows B n opT it) := by
  refine m_rows s hB hn (op := opT) rfl z (L := fun f g => lp (d + 4) 198 f 5 [some (iR (some 88)), some (iI br)] [] g) (fun I j l f r ho => ?_) (fun I q f r => ?_) (fun I j l f r ho => ?_) (fun I => ?_)
  · show lp (d + 4) 198 (f + 1) 5 [some (iR (some 88)), some (iI br)] [] (st h I J) = _
    have c1 : tkC B n (posT B n j) ≠ 42 := fun q => by rw [q] at ho; exact absurd ho (by decide)
    have c2 : tkC B n (posT B n j) ≠ 47 := fun q => by rw [q] at ho; exact absurd ho (by decide)
    have c3 : tkC B n (posT B n j) ≠ 37 := fun q => by rw [q] at ho; exact absurd ho (by decide)
    rw [e_M_readTerm_5, s_signM _ (c := 42) (by omega), kI_o, yck (bT_88 s), s_takes s hn r, if_neg (fun q => c1 ((tr_sign hB (by omega)).mp q)), kI_o, if_pos rfl, s_signM _ (c := 47) (by omega), kI_o, yck (bT_88 s), s_takes s hn r, if_neg (fun q => c2 ((tr_sign hB (by omega)).mp q)), kI_o, if_pos rfl, s_signM _ (c := 37) (by omega), kI_o, yck (bT_88 s), s_takes s hn r, if_neg (fun q => c3 ((tr_sign hB (by omega)).mp q)), kI_o, if_pos rfl]
  · show lp (d + 4) 198 (f + 1) 5 [some (iR (some 88)), some (iI br)] [] (st h I J) = _
    rw [e_M_readTerm_5, s_signM _ (c := 42) (by omega), kI_o, yck (bT_88 s), s_takesN s r, kI_o, if_pos rfl, s_signM _ (c := 47) (by omega), kI_o, yck (bT_88 s), s_takesN s r, kI_o, if_pos rfl, s_signM _ (c := 37) (by omega), kI_o, yck (bT_88 s), s_takesN s r, kI_o, if_pos rfl]
  · show lp (d + 4) 198 (f + 1) 5 [some (iR (some 88)), some (iI br)] [] (st h I J) = _
    rw [e_M_readTerm_5, s_signM _ (c := 42) (by omega), kI_o, yck (bT_88 s), s_takes s hn r]
    by_cases c1 : tkC B n (posT B n j) = 42
    · rw [if_pos ((tr_sign hB (by omega)).mpr c1), kI_o, if_neg (by decide), yck (bT_88 s)]
    · rw [if_neg (fun q => c1 ((tr_sign hB (by omega)).mp q)), kI_o, if_pos rfl, s_signM _ (c := 47) (by omega), kI_o, yck (bT_88 s), s_takes s hn r]
      by_cases c2 : tkC B n (posT B n j) = 47
      · rw [if_pos ((tr_sign hB (by omega)).mpr c2), kI_o, if_neg (by decide), yck (bT_88 s)]
      · rw [if_neg (fun q => c2 ((tr_sign hB (by omega)).mp q)), kI_o, if_pos rfl, s_signM _ (c := 37) (by omega), kI_o, yck (bT_88 s), s_takes s hn r]
        by_cases c3 : tkC B n (posT B n j) = 37
        · rw [if_pos ((tr_sign hB (by omega)).mpr c3), kI_o, if_neg (by decide), yck (bT_88 s)]
        · unfold opT at ho
          rw [if_neg c1, if_neg c2, if_neg c3] at ho
          exact absurd rfl ho
  · show rn (d + 5) 198 [iR (some 88), iI br] (st h I J) = _
    rw [r_M_readTerm, e_M_readTerm, yck (bT_88 s)]
theorem m_sum (s : ShM h 88) (hB : ∀ i, 0 ≤ B i ∧ B i ≤ 255) (hn : n ≤ 400) {br : Int} {it : Nat → Nat → RdR} (z : MdPr h J B n K ord (fun g => rn (d + 5) 198 [iR (some 88), iI br] g) it) : MdPr h J B n K ord (fun g => rn (d + 6) 197 [iR (some 88), iI br] g) (rwRows B n opS it) := by
  refine m_rows s hB hn (op := opS) rfl z (L := fun f g => lp (d + 5) 197 f 5 [some (iR (some 88)), some (iI br)] [] g) (fun I j l f r ho => ?_) (fun I q f r => ?_) (fun I j l f r ho => ?_) (fun I => ?_)
  · show lp (d + 5) 197 (f + 1) 5 [some (iR (some 88)), some (iI br)] [] (st h I J) = _
    have c1 : tkC B n (posT B n j) ≠ 43 := fun q => by rw [q] at ho; exact absurd ho (by decide)
    have c2 : tkC B n (posT B n j) ≠ 45 := fun q => by rw [q] at ho; exact absurd ho (by decide)
    rw [e_M_readSum_5, s_signM _ (c := 43) (by omega), kI_o, yck (bT_88 s), s_takes s hn r, if_neg (fun q => c1 ((tr_sign hB (by omega)).mp q)), kI_o, if_pos rfl, s_signM _ (c := 45) (by omega), kI_o, yck (bT_88 s), s_takes s hn r, if_neg (fun q => c2 ((tr_sign hB (by omega)).mp q)), kI_o, if_pos rfl]
  · show lp (d + 5) 197 (f + 1) 5 [some (iR (some 88)), some (iI br)] [] (st h I J) = _
    rw [e_M_readSum_5, s_signM _ (c := 43) (by omega), kI_o, yck (bT_88 s), s_takesN s r, kI_o, if_pos rfl, s_signM _ (c := 45) (by omega), kI_o, yck (bT_88 s), s_takesN s r, kI_o, if_pos rfl]
  · show lp (d + 5) 197 (f + 1) 5 [some (iR (some 88)), some (iI br)] [] (st h I J) = _
    rw [e_M_readSum_5, s_signM _ (c := 43) (by omega), kI_o, yck (bT_88 s), s_takes s hn r]
    by_cases c1 : tkC B n (posT B n j) = 43
    · rw [if_pos ((tr_sign hB (by omega)).mpr c1), kI_o, if_neg (by decide), yck (bT_88 s)]
    · rw [if_neg (fun q => c1 ((tr_sign hB (by omega)).mp q)), kI_o, if_pos rfl, s_signM _ (c := 45) (by omega), kI_o, yck (bT_88 s), s_takes s hn r]
      by_cases c2 : tkC B n (posT B n j) = 45
      · rw [if_pos ((tr_sign hB (by omega)).mpr c2), kI_o, if_neg (by decide), yck (bT_88 s)]
      · unfold opS at ho
        rw [if_neg c1, if_neg c2] at ho
        exact absurd rfl ho
  · show rn (d + 6) 197 [iR (some 88), iI br] (st h I J) = _
    rw [r_M_readSum, e_M_readSum, yck (bT_88 s)]
/-- a SUM with r brackets to spare, the reference: as the class -/
theorem m_sumR (s : ShM h 88) (hB : ∀ i, 0 ≤ B i ∧ B i ≤ 255) (hn : n ≤ 400) : ∀ r : Nat, r ≤ 8 → MdPr h J B n K ord (fun g => rn (d + 3 * r + 6) 197 [iR (some 88), iI ((8 - r : Nat) : Int)] g) (aSum B n ord r) := by
  intro r
  induction r with
  | zero =>
    intro _
    exact m_sum s hB hn (m_term s hB hn (m_part0 s hB hn))
  | succ r ih =>
    intro hr
    have z := ih (by omega)
    have e : 8 - r = (8 - (r + 1)) + 1 := by omega
    rw [e] at z
    exact m_sum (d := d + 3 * r + 3) s hB hn (m_term (d := d + 3 * r + 3) s hB hn (m_part1 (d := d + 3 * r + 3) s hB hn (br := 8 - (r + 1)) (by omega) z))
end P67
