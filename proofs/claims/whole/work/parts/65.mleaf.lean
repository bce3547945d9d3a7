/-! The reference's reader: PARTS (by program, wip/whole/gen65.py) -/
theorem trR_ok : ((List.range 1003).all fun c => decide (¬ (c < 283 ∨ 1000 ≤ c)) || (decide ((8 ≤ trM (c : Int) ∧ trM (c : Int) ≤ 16) ↔ (256 ≤ c ∧ c ≤ 264)) && (decide ((15 ≤ trM (c : Int) ∧ trM (c : Int) ≤ 20) ↔ ordW (c : Int) ≠ -1) && decide ((trM (c : Int) = 15 ∨ trM (c : Int) = 20) ↔ 4 ≤ ordW (c : Int))))) = true := by decide +kernel
theorem tr_r {B : Nat → Int} {n p : Nat} (hB : ∀ i, 0 ≤ B i ∧ B i ≤ 255) : ((8 ≤ cdM B n p ∧ cdM B n p ≤ 16) ↔ (256 ≤ tkC B n p ∧ tkC B n p ≤ 264)) ∧ ((15 ≤ cdM B n p ∧ cdM B n p ≤ 20) ↔ ordW (tkC B n p) ≠ -1) ∧ ((cdM B n p = 15 ∨ cdM B n p = 20) ↔ 4 ≤ ordW (tkC B n p)) := by
  have hr := tkC_rg (n := n) (p := p) hB
  have z := trR_ok
  rw [List.all_eq_true] at z
  have z := z (tkC B n p).toNat (List.mem_range.mpr (by omega))
  rw [Bool.or_eq_true, decide_eq_true_iff] at z
  have z := z.resolve_left (fun q => q (by omega))
  rw [Bool.and_eq_true, Bool.and_eq_true] at z
  obtain ⟨z1, z2, z3⟩ := z
  have z1 := of_decide_eq_true z1
  have z2 := of_decide_eq_true z2
  have z3 := of_decide_eq_true z3
  have e : (((tkC B n p).toNat : Nat) : Int) = tkC B n p := by omega
  rw [e] at z1 z2 z3
  rw [cdM_tr hB]
  refine ⟨?_, z2, z3⟩
  rw [z1]
  omega
/-- which language: its first word, its last one, orders or not -/
def MdLg (ord : Int) (I : Nat → Nat → Int) : Prop := (ord = 0 ∧ I 88 8 = 8 ∧ I 88 9 = 16 ∧ I 88 10 = 0) ∨ (ord = 1 ∧ I 88 8 = 15 ∧ I 88 9 = 20 ∧ I 88 10 = 1)
theorem MdLg.fr {ord : Int} {I I' : Nat → Nat → Int} (h : MdLg ord I) (f : MdFr I' I) : MdLg ord I' := by
  unfold MdLg at *
  rw [f.2 8 (by omega) (by omega) (by omega), f.2 9 (by omega) (by omega) (by omega), f.2 10 (by omega) (by omega) (by omega)]
  exact h
/-- a good end of reading, the reference -/
def MdG (B : Nat → Int) (n K : Nat) (I' : Nat → Nat → Int) (j : Nat) (x : RdR) : Prop := (∀ q, x = .inl q → MdNo B n K I' q) ∧ ∀ p' l' g, x = .inr (p', l', g) → ∃ j', MdOk B n K I' j' l' ∧ posT B n j' = p' ∧ j ≤ j' ∧ l' ≤ 50
/-- a method of the reference reads as f tells -/
def MdPr (h : IH) (J : Nat → Nat → Int) (B : Nat → Int) (n K : Nat) (ord : Int) (run : IH → Option IR) (f : Nat → Nat → RdR) : Prop :=
  (∀ (I : Nat → Nat → Int) (j l : Nat), MdLg ord I → MdOk B n K I j l → l ≤ 50 → ∃ I', MdFr I' I ∧ run (st h I J) = some (o0, st h I' J) ∧ MdG B n K I' j (f (posT B n j) l)) ∧
  ∀ (I : Nat → Nat → Int) (q : Int), MdNo B n K I q → ∃ I', MdFr I' I ∧ run (st h I J) = some (o0, st h I' J) ∧ MdNo B n K I' q
section P65
variable {d n K : Nat} {h : IH} {I J : Nat → Nat → Int} {B : Nat → Int} {j l : Nat} {ord : Int}
theorem MdG.bad {I' : Nat → Nat → Int} {q : Int} (r : MdNo B n K I' q) : MdG B n K I' j (.inl q) := ⟨fun q' e => (by cases e; exact r), fun p' l' g e => (by cases e)⟩
theorem MdG.fine {I' : Nat → Nat → Int} {j' l' : Nat} {g : Mng} (r : MdOk B n K I' j' l') (h1 : j ≤ j') (h2 : l' ≤ 50) : MdG B n K I' j (.inr (posT B n j', l', g)) := ⟨fun q' e => (by cases e), fun p2 l2 g2 e => (by cases e; exact ⟨j', r, rfl, h1, h2⟩)⟩
theorem s_signM (h : IH) {c : Int} (hc : 0 ≤ c ∧ c < 256) : rn (d + 1) 188 [iI c] h = some (oI (100 + c), h) := by
  rw [r_M_sign, e_M_sign, wr_id (by omega) (by omega)]
theorem s_must (s : ShM h 88) (hn : n ≤ 400) (r : MdOk B n K I j l) (c : Int) : rn (d + 3) 186 [iR (some 88), iI c] (st h I J) = some (o0, st h (if cdM B n (posT B n j) = c then up I 88 19 ((j + 1 : Nat) : Int) else up I 88 21 (tkF B n (posT B n j))) J) := by
  rw [r_M_must, e_M_must, yck (bT_88 s), s_takes s hn r]
  by_cases z : cdM B n (posT B n j) = c
  · rw [if_pos z, if_pos z, kI_o, if_neg (by decide)]
  · rw [if_neg z, if_neg z, kI_o, if_pos rfl, yck (bT_88 s), s_faultsO s hn r, kV_o]
theorem s_mustN (s : ShM h 88) {f : Int} (r : MdNo B n K I f) (c : Int) : rn (d + 3) 186 [iR (some 88), iI c] (st h I J) = some (o0, st h I J) := by
  rw [r_M_must, e_M_must, yck (bT_88 s), s_takesN s r, kI_o, if_pos rfl, yck (bT_88 s), s_faultsN s r, kV_o]
/-- a part is counted -/
theorem s_leaf (s : ShM h 88) (hn : n ≤ 400) (r : MdOk B n K I j l) (hl : l ≤ 50) (hj : j < K) : ∃ I', MdFr I' I ∧ rn (d + 3) 187 [iR (some 88)] (st h I J) = some (o0, st h I' J) ∧ (l = 50 → MdNo B n K I' (tkF B n (posT B n j))) ∧ (l < 50 → MdOk B n K I' (j + 1) (l + 1)) := by
  obtain ⟨r0, ⟨r1, r2, r3⟩, r4⟩ := id r
  rw [r_M_leaf, e_M_leaf, ygI (bT_88 s), r3]
  by_cases c : l = 50
  · subst c
    have rf := faultsO r
    have fr1 : MdFr (up (up I 88 21 (tkF B n (posT B n j))) 88 20 51) I := (MdFr.u _ _ (by omega)).tr (MdFr.u _ _ (by omega))
    have rf2 : MdNo B n K (up (up I 88 21 (tkF B n (posT B n j))) 88 20 51) (tkF B n (posT B n j)) := ⟨r0.fr fr1, by rw [up_ni (by omega), up_eq], by omega⟩
    rw [if_pos (by omega), yck (bT_88 s), s_faultsO s hn r, kV_o, ygI (bT_88 s), up_ni (by omega), r3, ypI (bT_88 s) (by omega), yck (bT_88 s), show wr (((50 : Nat) : Int) + 1) = 51 from by rw [wr_id (by omega) (by omega)]; rfl, s_fine s, kI_o, if_neg (show ¬ up (up I 88 21 (tkF B n (posT B n j))) 88 20 51 88 21 = -1 by rw [rf2.2.1]; exact rf2.2.2), if_pos rfl]
    exact ⟨_, fr1, rfl, fun _ => rf2, fun z => absurd z (by omega)⟩
  · have hw : wr ((l : Int) + 1) = ((l + 1 : Nat) : Int) := by rw [wr_id (by omega) (by omega)]; rfl
    have hw2 : wr ((j : Int) + 1) = ((j + 1 : Nat) : Int) := by have := r0.1.2; rw [wr_id (by omega) (by omega)]; rfl
    have fr1 : MdFr (up (up I 88 20 ((l + 1 : Nat) : Int)) 88 19 ((j + 1 : Nat) : Int)) I := (MdFr.u _ _ (by omega)).tr (MdFr.u _ _ (by omega))
    rw [if_neg (by omega), ygI (bT_88 s), r3, ypI (bT_88 s) (by omega), hw, yck (bT_88 s), s_fine s, kI_o, if_pos (show up I 88 20 ((l + 1 : Nat) : Int) 88 21 = -1 by rw [up_ni (by omega)]; exact r1), if_neg (by decide), ygI (bT_88 s), up_ni (by omega), r2, ypI (bT_88 s) (by omega), hw2]
    exact ⟨_, fr1, rfl, fun z => absurd z c, fun _ => ⟨r0.fr fr1, ⟨by rw [up_ni (by omega), up_ni (by omega)]; exact r1, by rw [up_eq], by rw [up_ni (by omega), up_eq]⟩, by omega, by omega⟩⟩
/-- a number that is no part by itself -/
theorem s_mustNumber (s : ShM h 88) (hB : ∀ i, 0 ≤ B i ∧ B i ≤ 255) (hn : n ≤ 400) (r : MdOk B n K I j l) {lo hi : Int} (hlo : 0 ≤ lo) (hhi : hi ≤ 1000) : ∃ I', MdFr I' I ∧ rn (d + 3) 189 [iR (some 88), iI lo, iI hi] (st h I J) = some (o0, st h I' J) ∧ ((tkC B n (posT B n j) = 1000 ∧ lo ≤ tkV B n (posT B n j) ∧ tkV B n (posT B n j) ≤ hi) → MdOk B n K I' (j + 1) l) ∧ (¬ (tkC B n (posT B n j) = 1000 ∧ lo ≤ tkV B n (posT B n j) ∧ tkV B n (posT B n j) ≤ hi) → MdNo B n K I' (tkF B n (posT B n j))) := by
  obtain ⟨r0, ⟨r1, r2, r3⟩, r4⟩ := id r
  have a := r0.at r4.1
  have k := r0.1.2
  have rf := faultsO r
  have hw2 : wr ((j : Int) + 1) = ((j + 1 : Nat) : Int) := by rw [wr_id (by omega) (by omega)]; rfl
  have ff : ¬ up I 88 21 (tkF B n (posT B n j)) 88 21 = -1 := by rw [rf.2.1]; exact rf.2.2
  rw [r_M_mustNumber, e_M_mustNumber, yck (bT_88 s), s_fine s, kI_o, if_pos r1, if_neg (by decide), ygR (bT_88 s) (bR_15 s), ygI (bT_88 s), r2, xB_s, yaIv (i := j) (x := cdM B n (posT B n j)) (bT_97 s) (bL_97 s) rfl (by omega) a.1]
  by_cases c : tkC B n (posT B n j) = 1000
  · have hj := r0.lt r4.1 (show tkC B n (posT B n j) ≠ 1001 by omega)
    rw [if_pos ((tr_num hB).mpr c), ygR (bT_88 s) (bR_16 s), ygI (bT_88 s), r2, xB_s, yaIv (i := j) (x := vlM B n (posT B n j)) (bT_98 s) (bL_98 s) rfl (by omega) (a.2.2 ((tr_num hB).mpr c)), s_lies, kI_o]
    by_cases c2 : lo ≤ tkV B n (posT B n j) ∧ tkV B n (posT B n j) ≤ hi
    · rw [if_pos ((vl_in hlo hhi).mpr c2), if_neg (by decide), yck (bT_88 s), s_fine s, kI_o, if_pos r1, if_neg (by decide), ygI (bT_88 s), r2, ypI (bT_88 s) (by omega), hw2]
      exact ⟨_, MdFr.u _ _ (by omega), rfl, fun _ => r.next hj, fun z => absurd ⟨c, c2⟩ z⟩
    · rw [if_neg (fun z => c2 ((vl_in hlo hhi).mp z)), if_pos rfl, yck (bT_88 s), s_faultsO s hn r, kV_o, yck (bT_88 s), s_fine s, kI_o, if_neg ff, if_pos rfl]
      exact ⟨_, MdFr.u _ _ (by omega), rfl, fun z => absurd z.2 c2, fun _ => rf⟩
  · rw [if_neg (fun z => c ((tr_num hB).mp z)), yck (bT_88 s), s_faultsO s hn r, kV_o, yck (bT_88 s), s_fine s, kI_o, if_neg ff, if_pos rfl]
    exact ⟨_, MdFr.u _ _ (by omega), rfl, fun z => absurd z.1 c, fun _ => rf⟩
/-- a part that is no bracket -/
theorem m_leafW (s : ShM h 88) (hB : ∀ i, 0 ≤ B i ∧ B i ≤ 255) (hn : n ≤ 400) (g : MdLg ord I) (r : MdOk B n K I j l) (hl : l ≤ 50) (hv : ¬ (tkC B n (posT B n j) = 1000 ∧ tkV B n (posT B n j) ≤ 1000)) (f : Nat) : ∃ I', MdFr I' I ∧ lp (d + 3) 199 (f + 1) 95 [some (iR (some 88)), none, some (iI (cdM B n (posT B n j)))] [] (st h I J) = some (o0, st h I' J) ∧ MdG B n K I' j (aLeaf B n ord (posT B n j) l) := by
  obtain ⟨t1, t2, t3⟩ := tr_r (n := n) (p := posT B n j) hB
  have rf := faultsO r
  have bad : aLeaf B n ord (posT B n j) l = .inl (tkF B n (posT B n j)) → ∃ I', MdFr I' I ∧ (some ((o0, st h (up I 88 21 (tkF B n (posT B n j))) J) : IR)) = some (o0, st h I' J) ∧ MdG B n K I' j (aLeaf B n ord (posT B n j) l) := fun e => ⟨_, MdFr.u _ _ (by omega), rfl, by rw [e]; exact MdG.bad rf⟩
  have l50 : 50 ≤ l → aLeaf B n ord (posT B n j) l = .inl (tkF B n (posT B n j)) := fun z => if_pos z
  rcases g with ⟨rfl, g1, g2, g3⟩ | ⟨rfl, g1, g2, g3⟩
  · have en : ¬ (256 ≤ tkC B n (posT B n j) ∧ tkC B n (posT B n j) ≤ 264) → aLeaf B n 0 (posT B n j) l = .inl (tkF B n (posT B n j)) := fun z => by
      unfold aLeaf
      by_cases c : 50 ≤ l
      · rw [if_pos c]
      · rw [if_neg c, if_neg hv, if_pos rfl, if_neg z]
    rw [e_M_readPart_95, ygI (bT_88 s), g1]
    by_cases c1 : cdM B n (posT B n j) < 8
    · rw [if_pos c1, yck (bT_88 s), s_faultsO s hn r, kV_o]
      exact bad (en (fun z => by have := t1.mpr z; omega))
    · rw [if_neg c1, ygI (bT_88 s), g2]
      by_cases c2 : cdM B n (posT B n j) ≤ 16
      · have ht := t1.mp ⟨by omega, c2⟩
        have hj := r.1.lt r.2.2.1 (show tkC B n (posT B n j) ≠ 1001 by omega)
        obtain ⟨I1, a1, a2, a3, a4⟩ := s_leaf (d := d) (J := J) s hn r hl hj
        have e10 : I1 88 10 = 0 := by rw [a1.2 10 (by omega) (by omega) (by omega)]; exact g3
        rw [if_pos c2, yck (bT_88 s), a2, kV_o, ygI (bT_88 s), e10, if_pos rfl]
        refine ⟨I1, a1, rfl, ?_⟩
        by_cases c : l = 50
        · rw [l50 (by omega)]
          exact MdG.bad (a3 c)
        · have e : aLeaf B n 0 (posT B n j) l = .inr (posT B n (j + 1), l + 1, fun ws => ws (tkC B n (posT B n j) - 256).toNat) := by
            unfold aLeaf
            rw [if_neg (by omega), if_neg hv, if_pos rfl, if_pos ht]
            rfl
          rw [e]
          exact MdG.fine (a4 (by omega)) (by omega) (by omega)
      · rw [if_neg c2, yck (bT_88 s), s_faultsO s hn r, kV_o]
        exact bad (en (fun z => by have := t1.mpr z; omega))
  · have en : ordW (tkC B n (posT B n j)) = -1 → aLeaf B n 1 (posT B n j) l = .inl (tkF B n (posT B n j)) := fun z => by
      unfold aLeaf
      by_cases c : 50 ≤ l
      · rw [if_pos c]
      · rw [if_neg c, if_neg hv, if_neg (by decide), if_pos z]
    rw [e_M_readPart_95, ygI (bT_88 s), g1]
    by_cases c1 : cdM B n (posT B n j) < 15
    · rw [if_pos c1, yck (bT_88 s), s_faultsO s hn r, kV_o]
      exact bad (en (Decidable.not_not.mp (fun z => by have := t2.mpr z; omega)))
    · rw [if_neg c1, ygI (bT_88 s), g2]
      by_cases c2 : cdM B n (posT B n j) ≤ 20
      · have ht := t2.mp ⟨by omega, c2⟩
        have hj := r.1.lt r.2.2.1 (fun z => ht (by rw [z]; rfl))
        obtain ⟨I1, a1, a2, a3, a4⟩ := s_leaf (d := d) (J := J) s hn r hl hj
        have e10 : I1 88 10 = 1 := by rw [a1.2 10 (by omega) (by omega) (by omega)]; exact g3
        rw [if_pos c2, yck (bT_88 s), a2, kV_o, ygI (bT_88 s), e10, if_neg (by decide)]
        by_cases c3 : cdM B n (posT B n j) = 15 ∨ cdM B n (posT B n j) = 20
        · have h4 := t3.mp c3
          have hd : (if cdM B n (posT B n j) = 15 then xck (st h I1 J) 88 22 (kV (rn (d + 3) 189 [iR (some 88), iI 0, iI 6] (st h I1 J)) fun h6 => some (o0, h6)) else if cdM B n (posT B n j) = 20 then xck (st h I1 J) 88 22 (kV (rn (d + 3) 189 [iR (some 88), iI 0, iI 6] (st h I1 J)) fun h7 => some (o0, h7)) else some (o0, st h I1 J)) = kV (rn (d + 3) 189 [iR (some 88), iI 0, iI 6] (st h I1 J)) fun h6 => some (o0, h6) := by
            rw [yck (bT_88 s)]
            by_cases c4 : cdM B n (posT B n j) = 15
            · rw [if_pos c4]
            · rw [if_neg c4, if_pos (c3.resolve_left c4)]
          rw [hd]
          by_cases c : l = 50
          · have rn1 := a3 c
            rw [l50 (by omega)]
            have hmn : rn (d + 3) 189 [iR (some 88), iI 0, iI 6] (st h I1 J) = some (o0, st h I1 J) := by
              have ff : ¬ I1 88 21 = -1 := by rw [rn1.2.1]; exact rn1.2.2
              rw [r_M_mustNumber, e_M_mustNumber, yck (bT_88 s), s_fine s, kI_o, if_neg ff, if_pos rfl, yck (bT_88 s), s_fine s, kI_o, if_neg ff, if_pos rfl]
            rw [hmn, kV_o]
            exact ⟨I1, a1, rfl, MdG.bad rn1⟩
          · have r1 := a4 (by omega)
            obtain ⟨I2, b1, b2, b3, b4⟩ := s_mustNumber (d := d) (J := J) s hB hn r1 (lo := 0) (hi := 6) (by omega) (by omega)
            rw [b2, kV_o]
            refine ⟨I2, b1.tr a1, rfl, ?_⟩
            have hv0 := tkV_in B n (tkE B n (posT B n j))
            by_cases c5 : tkC B n (tkE B n (posT B n j)) = 1000 ∧ tkV B n (tkE B n (posT B n j)) ≤ 6
            · have e : aLeaf B n 1 (posT B n j) l = .inr (posT B n (j + 1 + 1), l + 1, fun ws => ws (ordW (tkC B n (posT B n j)) + tkV B n (tkE B n (posT B n j))).toNat) := by
                unfold aLeaf
                rw [if_neg (by omega), if_neg hv, if_neg (by decide), if_neg ht, if_neg (by omega), if_pos c5]
                rfl
              rw [e]
              exact MdG.fine (b3 ⟨c5.1, hv0.1, c5.2⟩) (by omega) (by omega)
            · have e : aLeaf B n 1 (posT B n j) l = .inl (tkF B n (tkE B n (posT B n j))) := by
                unfold aLeaf
                rw [if_neg (by omega), if_neg hv, if_neg (by decide), if_neg ht, if_neg (by omega), if_neg c5]
              rw [e]
              exact MdG.bad (b4 (fun z => c5 ⟨z.1, z.2.2⟩))
        · have h4 : ¬ 4 ≤ ordW (tkC B n (posT B n j)) := fun z => c3 (t3.mpr z)
          rw [if_neg (fun z => c3 (Or.inl z)), if_neg (fun z => c3 (Or.inr z))]
          refine ⟨I1, a1, rfl, ?_⟩
          by_cases c : l = 50
          · rw [l50 (by omega)]
            exact MdG.bad (a3 c)
          · have e : aLeaf B n 1 (posT B n j) l = .inr (posT B n (j + 1), l + 1, fun ws => ws (ordW (tkC B n (posT B n j))).toNat) := by
              unfold aLeaf
              rw [if_neg (by omega), if_neg hv, if_neg (by decide), if_neg ht, if_pos (by omega)]
              rfl
            rw [e]
            exact MdG.fine (a4 (by omega)) (by omega) (by omega)
      · rw [if_neg c2, yck (bT_88 s), s_faultsO s hn r, kV_o]
        exact bad (en (Decidable.not_not.mp (fun z => by have := t2.mpr z; omega)))
end P65
