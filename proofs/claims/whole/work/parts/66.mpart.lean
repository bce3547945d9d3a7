/-! The reference's reader: SUMS (by program, wip/whole/gen66.py) -/
theorem tkE_ge {B : Nat → Int} {n p : Nat} : p ≤ tkE B n p := by
  have f0 : p ≤ tkF B n p := scT_ge _ _ _ _
  have d1 : tkF B n p ≤ tkD B n p := scT_ge _ _ _ _
  have g1 : tkF B n p ≤ tkL B n p := scT_ge _ _ _ _
  unfold tkE
  (repeat' split) <;> omega
theorem posT_mono {B : Nat → Int} {n i : Nat} : ∀ k, posT B n i ≤ posT B n (i + k)
  | 0 => Nat.le_refl _
  | k + 1 => Nat.le_trans (posT_mono k) tkE_ge
section P66
variable {d n K : Nat} {h : IH} {J : Nat → Nat → Int} {B : Nat → Int} {ord : Int}
theorem aLeaf_91 {p l : Nat} (hc : tkC B n p = 91) : aLeaf B n ord p l = .inl (tkF B n p) := by
  unfold aLeaf
  rw [hc]
  by_cases c : 50 ≤ l
  · rw [if_pos c]
  · rw [if_neg c, if_neg (by omega)]
    by_cases c2 : ord = 0
    · rw [if_pos c2, if_neg (by omega)]
    · rw [if_neg c2, if_pos (by rfl)]
/-- behind the fault a part is nothing -/
theorem m_partN (s : ShM h 88) {I : Nat → Nat → Int} {q : Int} (r : MdNo B n K I q) (x : Int) : rn (d + 3) 199 [iR (some 88), iI x] (st h I J) = some (o0, st h I J) := by
  rw [r_M_readPart, e_M_readPart, yck (bT_88 s), s_fine s, kI_o, if_neg (show ¬ I 88 21 = -1 by rw [r.2.1]; exact r.2.2), if_pos rfl]
/-- a part that is no bracket -/
theorem m_rest (s : ShM h 88) (hB : ∀ i, 0 ≤ B i ∧ B i ≤ 255) (hn : n ≤ 400) {I : Nat → Nat → Int} {j l : Nat} (g : MdLg ord I) (r : MdOk B n K I j l) (hl : l ≤ 50) (x : Int) (hb : tkC B n (posT B n j) ≠ 91) : ∃ I', MdFr I' I ∧ rn (d + 4) 199 [iR (some 88), iI x] (st h I J) = some (o0, st h I' J) ∧ MdG B n K I' j (aLeaf B n ord (posT B n j) l) := by
  obtain ⟨r0, ⟨r1, r2, r3⟩, r4⟩ := id r
  have a := r0.at r4.1
  have k := r0.1.2
  have h91 : ¬ cdM B n (posT B n j) = 100 + 91 := fun z => hb ((tr_sign hB (by omega)).mp z)
  rw [r_M_readPart, e_M_readPart, yck (bT_88 s), s_fine s, kI_o, if_pos r1, if_neg (by decide), ygR (bT_88 s) (bR_15 s), ygI (bT_88 s), r2, xB_s, yaIv (i := j) (x := cdM B n (posT B n j)) (bT_97 s) (bL_97 s) rfl (by omega) a.1, s_signM _ (c := 91) (by omega), kI_o, if_neg h91]
  by_cases c : cdM B n (posT B n j) = 50
  · have ct := (tr_num hB).mp c
    have hj := r0.lt r4.1 (show tkC B n (posT B n j) ≠ 1001 by omega)
    have hv := vl_in (B := B) (n := n) (p := posT B n j) (lo := 0) (hi := 1000) (by omega) (by omega)
    have hv0 := tkV_in B n (posT B n j)
    have hr := vl_rel B n (posT B n j)
    rw [if_pos c, ygR (bT_88 s) (bR_16 s), ygI (bT_88 s), r2, xB_s, yaIv (i := j) (x := vlM B n (posT B n j)) (bT_98 s) (bL_98 s) rfl (by omega) (a.2.2 c)]
    by_cases c2 : vlM B n (posT B n j) ≤ 1000
    · have ctv : tkV B n (posT B n j) ≤ 1000 := by
        unfold vRel at hr
        omega
      obtain ⟨I1, a1, a2, a3, a4⟩ := s_leaf (d := d) (J := J) s hn r hl hj
      have hend : (xgI (st h I1 J) 88 22 10 fun x31 => if x31 = 0 then some (o0, st h I1 J) else if cdM B n (posT B n j) = 15 then xck (st h I1 J) 88 22 (kV (rn (d + 3) 189 [iR (some 88), iI 0, iI 6] (st h I1 J)) fun h32 => some (o0, h32)) else if cdM B n (posT B n j) = 20 then xck (st h I1 J) 88 22 (kV (rn (d + 3) 189 [iR (some 88), iI 0, iI 6] (st h I1 J)) fun h33 => some (o0, h33)) else some (o0, st h I1 J)) = some (o0, st h I1 J) := by
        rw [ygI (bT_88 s), if_neg (show ¬ cdM B n (posT B n j) = 15 by omega), if_neg (show ¬ cdM B n (posT B n j) = 20 by omega)]
        split <;> rfl
      rw [if_pos c2, yck (bT_88 s), a2, kV_o, hend]
      refine ⟨I1, a1, rfl, ?_⟩
      by_cases c3 : l = 50
      · rw [show aLeaf B n ord (posT B n j) l = .inl (tkF B n (posT B n j)) from if_pos (by omega)]
        exact MdG.bad (a3 c3)
      · have e : aLeaf B n ord (posT B n j) l = .inr (posT B n (j + 1), l + 1, fun _ => tkV B n (posT B n j)) := by
          unfold aLeaf
          rw [if_neg (by omega), if_pos ⟨ct, ctv⟩]
          rfl
        rw [e]
        exact MdG.fine (a4 (by omega)) (by omega) (by omega)
    · have ctv : ¬ tkV B n (posT B n j) ≤ 1000 := by
        unfold vRel at hr
        omega
      rw [if_neg c2]
      exact m_leafW s hB hn g r hl (fun z => ctv z.2) 999998
  · rw [if_neg c]
    exact m_leafW s hB hn g r hl (fun z => c ((tr_num hB).mpr z.1)) 999998
theorem m_part0 (s : ShM h 88) (hB : ∀ i, 0 ≤ B i ∧ B i ≤ 255) (hn : n ≤ 400) : MdPr h J B n K ord (fun g => rn (d + 4) 199 [iR (some 88), iI 8] g) (aPart B n ord none) := by
  refine ⟨fun I j l g r hl => ?_, fun I q r => ⟨I, MdFr.rf I, m_partN (d := d + 1) s r 8, r⟩⟩
  show ∃ I', MdFr I' I ∧ rn (d + 4) 199 [iR (some 88), iI 8] (st h I J) = some (o0, st h I' J) ∧ MdG B n K I' j (aLeaf B n ord (posT B n j) l)
  by_cases c : tkC B n (posT B n j) = 91
  · obtain ⟨r0, ⟨r1, r2, r3⟩, r4⟩ := id r
    have a := r0.at r4.1
    have k := r0.1.2
    have rf := faultsO r
    rw [aLeaf_91 c, r_M_readPart, e_M_readPart, yck (bT_88 s), s_fine s, kI_o, if_pos r1, if_neg (by decide), ygR (bT_88 s) (bR_15 s), ygI (bT_88 s), r2, xB_s, yaIv (i := j) (x := cdM B n (posT B n j)) (bT_97 s) (bL_97 s) rfl (by omega) a.1, s_signM _ (c := 91) (by omega), kI_o, if_pos ((tr_sign hB (by omega)).mpr c), if_pos rfl, yck (bT_88 s), s_faultsO s hn r, kV_o, yck (bT_88 s), s_fine s, kI_o, if_neg (show ¬ up I 88 21 (tkF B n (posT B n j)) 88 21 = -1 by rw [rf.2.1]; exact rf.2.2), if_pos rfl]
    exact ⟨_, MdFr.u _ _ (by omega), rfl, MdG.bad rf⟩
  · exact m_rest s hB hn g r hl 8 c
theorem m_part1 (s : ShM h 88) (hB : ∀ i, 0 ≤ B i ∧ B i ≤ 255) (hn : n ≤ 400) {br : Nat} (hbr : br < 8) {inn : Nat → Nat → RdR} (z : MdPr h J B n K ord (fun g => rn (d + 3) 197 [iR (some 88), iI ((br + 1 : Nat) : Int)] g) inn) : MdPr h J B n K ord (fun g => rn (d + 4) 199 [iR (some 88), iI (br : Int)] g) (aPart B n ord (some inn)) := by
  refine ⟨fun I j l g r hl => ?_, fun I q r => ⟨I, MdFr.rf I, m_partN (d := d + 1) s r br, r⟩⟩
  show ∃ I', MdFr I' I ∧ rn (d + 4) 199 [iR (some 88), iI (br : Int)] (st h I J) = some (o0, st h I' J) ∧ MdG B n K I' j (aPart B n ord (some inn) (posT B n j) l)
  by_cases c : tkC B n (posT B n j) = 91
  · obtain ⟨r0, ⟨r1, r2, r3⟩, r4⟩ := id r
    have a := r0.at r4.1
    have k := r0.1.2
    have hj := r0.lt r4.1 (show tkC B n (posT B n j) ≠ 1001 by omega)
    have hw2 : wr ((j : Int) + 1) = ((j + 1 : Nat) : Int) := by rw [wr_id (by omega) (by omega)]; rfl
    have hw3 : wr ((br : Int) + 1) = ((br + 1 : Nat) : Int) := by rw [wr_id (by omega) (by omega)]; rfl
    have rn1 := r.next hj
    have f0 := MdFr.u I ((j + 1 : Nat) : Int) (i := 19) (by omega)
    obtain ⟨I1, b1, b2, b3⟩ := z.1 _ (j + 1) l (g.fr f0) rn1 hl
    have b2 : rn (d + 3) 197 [iR (some 88), iI ((br + 1 : Nat) : Int)] (st h (up I 88 19 ((j + 1 : Nat) : Int)) J) = some (o0, st h I1 J) := b2
    have k1 := b1.tr f0
    have ea : aPart B n ord (some inn) (posT B n j) l = aClose B n 93 (inn (posT B n (j + 1)) l) := if_pos c
    rw [ea, r_M_readPart, e_M_readPart, yck (bT_88 s), s_fine s, kI_o, if_pos r1, if_neg (by decide), ygR (bT_88 s) (bR_15 s), ygI (bT_88 s), r2, xB_s, yaIv (i := j) (x := cdM B n (posT B n j)) (bT_97 s) (bL_97 s) rfl (by omega) a.1, s_signM _ (c := 91) (by omega), kI_o, if_pos ((tr_sign hB (by omega)).mpr c), if_neg (by omega), yck (bT_88 s), s_fine s, kI_o, if_pos r1, if_neg (by decide), ygI (bT_88 s), r2, ypI (bT_88 s) (by omega), yck (bT_88 s), hw2, hw3, b2, kV_o, s_signM _ (c := 93) (by omega), kI_o, yck (bT_88 s)]
    cases e : inn (posT B n (j + 1)) l with
    | inl q =>
      have rq := b3.1 q e
      rw [s_mustN s rq, kV_o]
      exact ⟨I1, k1, rfl, MdG.bad rq⟩
    | inr x =>
      obtain ⟨p', l', f⟩ := x
      obtain ⟨j', c1, c2, c3, c4⟩ := b3.2 p' l' f e
      subst c2
      rw [s_must s hn c1, kV_o]
      by_cases c5 : tkC B n (posT B n j') = 93
      · have hj' := c1.1.lt c1.2.2.1 (show tkC B n (posT B n j') ≠ 1001 by omega)
        have e2 : aClose B n 93 (.inr (posT B n j', l', f)) = .inr (posT B n (j' + 1), l', f) := if_pos c5
        rw [if_pos ((tr_sign hB (by omega)).mpr c5), e2]
        exact ⟨_, (MdFr.u I1 _ (by omega)).tr k1, rfl, MdG.fine (c1.next hj') (by omega) c4⟩
      · have e2 : aClose B n 93 (.inr (posT B n j', l', f)) = .inl (tkF B n (posT B n j')) := if_neg c5
        rw [if_neg (fun z => c5 ((tr_sign hB (by omega)).mp z)), e2]
        exact ⟨_, (MdFr.u I1 _ (by omega)).tr k1, rfl, MdG.bad (faultsO c1)⟩
  · have ea : aPart B n ord (some inn) (posT B n j) l = aLeaf B n ord (posT B n j) l := if_neg c
    rw [ea]
    exact m_rest s hB hn g r hl br c
/-- rows of things -/
theorem m_row (s : ShM h 88) (hB : ∀ i, 0 ≤ B i ∧ B i ≤ 255) (hn : n ≤ 400) {op : Int → Int} (h1 : op 1001 = 0) {run : IH → Option IR} {it : Nat → Nat → RdR} (z : MdPr h J B n K ord run it) {L : Nat → IH → Option IR}
    (hst : ∀ (I : Nat → Nat → Int) (j l f : Nat), MdOk B n K I j l → op (tkC B n (posT B n j)) = 0 → L (f + 1) (st h I J) = some (o0, st h I J))
    (hsN : ∀ (I : Nat → Nat → Int) (q : Int) (f : Nat), MdNo B n K I q → L (f + 1) (st h I J) = some (o0, st h I J))
    (hgo : ∀ (I : Nat → Nat → Int) (j l f : Nat), MdOk B n K I j l → op (tkC B n (posT B n j)) ≠ 0 → L (f + 1) (st h I J) = kV (run (st h (up I 88 19 ((j + 1 : Nat) : Int)) J)) fun g => L f g) {j0 : Nat} : ∀ (k j l fu : Nat) (I : Nat → Nat → Int) (f : Mng), n - posT B n j ≤ k → k + 2 ≤ fu → MdLg ord I → MdOk B n K I j l → l ≤ 50 → j0 ≤ j → ∃ I', MdFr I' I ∧ L fu (st h I J) = some (o0, st h I' J) ∧ MdG B n K I' j0 (rwRow B n op it k (posT B n j) l f) := by
  intro k
  induction k with
  | zero =>
    intro j l fu I f hk hfu g r hl hj0
    have hp := posT_le (B := B) (n := n) j
    have hpn : ¬ (tkC B n (posT B n j) ≠ 1001) := fun q => by
      have := tkE_lt hp q
      omega
    have hc : tkC B n (posT B n j) = 1001 := Decidable.not_not.mp hpn
    obtain ⟨fu, rfl⟩ : ∃ q, fu = q + 1 := ⟨fu - 1, by omega⟩
    exact ⟨I, MdFr.rf I, hst I j l fu r (by rw [hc]; exact h1), MdG.fine r hj0 hl⟩
  | succ k ih =>
    intro j l fu I f hk hfu g r hl hj0
    have hp := posT_le (B := B) (n := n) j
    obtain ⟨fu, rfl⟩ : ∃ q, fu = q + 1 := ⟨fu - 1, by omega⟩
    by_cases c : op (tkC B n (posT B n j)) = 0
    · have e : rwRow B n op it (k + 1) (posT B n j) l f = .inr (posT B n j, l, f) := if_pos c
      rw [e]
      exact ⟨I, MdFr.rf I, hst I j l fu r c, MdG.fine r hj0 hl⟩
    · have hc : tkC B n (posT B n j) ≠ 1001 := fun q => c (by rw [q]; exact h1)
      have hpe := tkE_lt hp hc
      have hj := r.1.lt r.2.2.1 hc
      have f0 := MdFr.u I ((j + 1 : Nat) : Int) (i := 19) (by omega)
      obtain ⟨I1, b1, b2, b3⟩ := z.1 _ (j + 1) l (g.fr f0) (r.next hj) hl
      have k1 := b1.tr f0
      have e : rwRow B n op it (k + 1) (posT B n j) l f = (match it (posT B n (j + 1)) l with
        | .inl q => .inl q
        | .inr (p', l', g) => rwRow B n op it k p' l' (binF (op (tkC B n (posT B n j))) f g)) := if_neg c
      rw [hgo I j l fu r c, b2, kV_o, e]
      cases e1 : it (posT B n (j + 1)) l with
      | inl q =>
        have rq := b3.1 q e1
        obtain ⟨fu, rfl⟩ : ∃ q, fu = q + 1 := ⟨fu - 1, by omega⟩
        exact ⟨I1, k1, hsN I1 q fu rq, MdG.bad rq⟩
      | inr x =>
        obtain ⟨p', l', f'⟩ := x
        obtain ⟨j', c1, c2, c3, c4⟩ := b3.2 p' l' f' e1
        subst c2
        have hmono : posT B n (j + 1) ≤ posT B n j' := by
          have := posT_mono (B := B) (n := n) (i := j + 1) (j' - (j + 1))
          rwa [show j + 1 + (j' - (j + 1)) = j' by omega] at this
        have he : posT B n (j + 1) = tkE B n (posT B n j) := rfl
        obtain ⟨I2, d1, d2, d3⟩ := ih j' l' fu I1 (binF (op (tkC B n (posT B n j))) f f') (by omega) (by omega) (g.fr k1) c1 c4 (by omega)
        exact ⟨I2, d1.tr k1, d2, d3⟩
end P66
