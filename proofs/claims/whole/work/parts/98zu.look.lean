/-! The way looked for: the class (by program, wip/whole/gen98zu.py) -/
/-- what was found stands -/
def HwI (h : IH) (I : Nat → Nat → Int) (n : Nat) (a : Nat → Nat) (snd : Nat → Nat → Nat → Bool) : Prop := ∃ Q P : Nat → Int, HmA n (bfsB n snd a) (I 83) Q P ∧ ((hR h 83 6 = none ∧ (∀ i, Q i = 0) ∧ ∀ i, P i = 0) ∨ ∃ qc pc sc, WyS h qc pc sc ∧ Q = I qc ∧ P = I pc)
def HwO (h : IH) (I : Nat → Nat → Int) : Prop := (hR h 83 6 = none ∧ HmS (I 83) (I 85) (fun _ => 0) (fun _ => 0)) ∨ ∃ qc pc sc, WyS h qc pc sc ∧ HmS (I 83) (I 85) (I qc) (I pc)
def LkF (h h' : IH) (I I' : Nat → Nat → Int) : Prop := (h' = h ∧ hR h 83 6 = none ∧ ∀ b, (b < 52 ∨ 55 < b) → b ≠ 83 → b ≠ 84 → b ≠ 85 → I' b = I b) ∨ ∃ qc pc sc, GrW h h' qc pc sc ∧ WyS h' qc pc sc ∧ ∀ b, b < hN h → (b < 52 ∨ 55 < b) → b ≠ 83 → b ≠ 84 → b ≠ 85 → b ≠ qc → b ≠ pc → I' b = I b
section P98zu
variable {d n : Nat} {I I' J : Nat → Nat → Int} {h h' : IH} {qc pc sc : Nat} {a b : Nat → Nat} {snd : Nat → Nat → Nat → Bool} {S : BSt} {K : Nat → Int} {LW : Nat → Nat × (Nat → Cls)}
theorem HwO.y (o : HwO h I) : (∃ qc pc sc, WyS h qc pc sc) ∨ hR h 83 6 = none := by
  rcases o with ⟨o, -⟩ | ⟨q, p, s, o, -⟩
  · exact Or.inr o
  · exact Or.inl ⟨q, p, s, o⟩
theorem arN_of (k : KOk K) (en : K 183 = (n : Int)) : ArN n (arK K) := ⟨by have := k.1; omega, arK_perm k en, fun j hj => if_neg (by omega)⟩
theorem arK_at (r : RL h I 4 K LW) (k : KOk K) {t : Nat} (ht : t < 7) : I 5 t = (arK K t : Int) := by
  have e := (r.2.1 t ht).1
  have e' : I 5 t = (if (t : Int) < K 183 then K t else t) := e
  rw [e']
  unfold arK
  by_cases c : (t : Int) < K 183
  · have := k.2.1.1 t c
    rw [if_pos c, if_pos c]
    omega
  · rw [if_neg c, if_neg c]
theorem l_lk11 (s : ShT h) (sm : Sm8 a) (e : ∀ t, t < 7 → I 5 t = (a t : Int)) : ∀ (q i f : Nat), i + q = 7 → lp d 89 (f + q + 1) 11 [some (iR (some 83)), some (iR (some 4)), none, some (iI (pkN a i : Nat)), some (iI (i : Int)), none] [] (st h I J) = lp d 89 (f + 1) 11 [some (iR (some 83)), some (iR (some 4)), none, some (iI (packA a : Nat)), some (iI 7), none] [] (st h I J) := by
  intro q
  induction q with
  | zero =>
    intro i f hi
    have : i = 7 := by omega
    subst this
    rw [pkN_7]
    rfl
  | succ q ih =>
    intro i f hi
    rw [show f + (q + 1) + 1 = (f + q + 1) + 1 by omega, e_Wh_look_11, if_pos (by omega), xB_s, ygR (aT_4 s) (aR_4_1 s), xB_s, yaIv (i := i) (aT_5 s) (aL_5 s) rfl (by omega) (e i (by omega)), pk_or sm (by omega), wr_id (x := (i : Int) + 1) (by omega) (by omega), show (i : Int) + 1 = ((i + 1 : Nat) : Int) by omega]
    exact ih (i + 1) f (by omega)
theorem l_lk86 (v : Int) : ∀ (q i f : Nat), i + q = 7 → lp d 89 (f + q + 1) 86 [some (iR (some 83)), some (iR (some 4)), none, some (iI v), some (iI (pkN (fun i => i) i : Nat)), some (iI (i : Int))] [] (st h I J) = lp d 89 (f + 1) 86 [some (iR (some 83)), some (iR (some 4)), none, some (iI v), some (iI (packA (fun i => i) : Nat)), some (iI 7)] [] (st h I J) := by
  have sm : Sm8 (fun i => i) := fun i hi => Nat.lt_of_lt_of_le hi (by omega)
  intro q
  induction q with
  | zero =>
    intro i f hi
    have : i = 7 := by omega
    subst this
    rw [pkN_7]
    rfl
  | succ q ih =>
    intro i f hi
    rw [show f + (q + 1) + 1 = (f + q + 1) + 1 by omega, e_Wh_look_86, if_pos (by omega), pk_or sm (k := i) (by omega), wr_id (x := (i : Int) + 1) (by omega) (by omega), show (i : Int) + 1 = ((i + 1 : Nat) : Int) by omega]
    exact ih (i + 1) f (by omega)
/-- found already -/
theorem HmS.same {F S0 Q P : Nat → Int} (w : HmS F S0 Q P) (ar : ArN n a) (e2 : F 2 = (n : Int)) (e3 : F 3 = (packA a : Nat)) (eS : ∀ j, j < 49 → rowF n snd j = S0 j) : HmA n (bfsB n snd a) F Q P := by
  rcases w with w | ⟨n0, a0, snd0, ar0, ⟨w2, w3⟩, wS, w4⟩
  · omega
  · have en : n0 = n := by omega
    subst en
    obtain ⟨hn, p, t⟩ := ar
    obtain ⟨-, p0, t0⟩ := ar0
    have ep : packA a0 = packA a := by omega
    have ea : a0 = a := funext fun i => by
      by_cases c : i < 7
      · exact pack_inj (perm_up hn p0 t0) (perm_up hn p t) (by rw [ep]) i c
      · rw [t i (by omega), t0 i (by omega)]
    subst ea
    have es : EqS n0 snd snd0 := rowF_inj hn fun j hj => (eS j hj).trans (wS j hj)
    rw [bfs_cg es p]
    exact w4
theorem HwO.keep (o : HwO h I) (ar : ArN n a) (e2 : I 83 2 = (n : Int)) (e3 : I 83 3 = (packA a : Nat)) (eS : ∀ j, j < 49 → rowF n snd j = I 85 j) (q : ∀ b, b = 83 ∨ 118 ≤ b → I' b = I b) : HwI h I' n a snd := by
  rcases o with ⟨o1, o2⟩ | ⟨qc, pc, sc, o1, o2⟩
  · exact ⟨_, _, by rw [q 83 (Or.inl rfl)]; exact o2.same ar e2 e3 eS, Or.inl ⟨o1, fun _ => rfl, fun _ => rfl⟩⟩
  · exact ⟨I qc, I pc, by rw [q 83 (Or.inl rfl)]; exact o2.same ar e2 e3 eS, Or.inr ⟨qc, pc, sc, o1, (q qc (Or.inr o1.2.1.2.2)).symm, (q pc (Or.inr o1.2.2.1.2.2)).symm⟩⟩
theorem HwO.lk (o : HwO h I) (q : ∀ b, (b < 52 ∨ 55 < b) → b ≠ 83 → b ≠ 84 → b ≠ 85 → I' b = I b) : LkF h h I I' := by
  rcases o with ⟨o1, -⟩ | ⟨qc, pc, sc, o1, -⟩
  · exact Or.inl ⟨rfl, o1, q⟩
  · exact Or.inr ⟨qc, pc, sc, Or.inl ⟨rfl, o1⟩, o1, fun b _ z1 z2 z3 z4 _ _ => q b z1 z2 z3 z4⟩
theorem t_look (o : NowOk h I K LW) (en : K 183 = (n : Int)) (hN118 : 118 ≤ hN h) (ow : HwO h I) : ∃ (h' : IH) (I' J' : Nat → Nat → Int), LkF h h' I I' ∧ (I' 83 2 = (n : Int) ∧ I' 83 3 = (packA (arK K) : Nat) ∧ ∀ j, j < 49 → I' 85 j = rowF n (sndK K (lvOf K LW)) j) ∧ HwI h' I' n (arK K) (sndK K (lvOf K LW)) ∧ rn (d + 6) 89 [iR (some 83), iR (some 4), iR (some 52)] (st h I J) = some (o0, st h' I' J') := by
  have s := o.1
  have kk := o.2.2.1
  have t83 := aT_83 s
  have ar := arN_of kk en
  obtain ⟨hn, p, ta⟩ := id ar
  have sm := perm_sm hn p ta
  obtain ⟨snd, es⟩ : ∃ snd, snd = sndK K (lvOf K LW) := ⟨_, rfl⟩
  obtain ⟨a, ea⟩ : ∃ a, a = arK K := ⟨_, rfl⟩
  obtain ⟨I1, a1, a2, a3⟩ := t_sends (d := d) (J := J) o en
  rw [← es] at a2 ⊢
  rw [← ea] at ar p ta sm ⊢
  have e5 : ∀ t, t < 7 → I1 5 t = (a t : Int) := fun t ht => by
    rw [a1 5 (by omega) (by omega), ea]
    exact arK_at o.2.1 kk ht
  have e40 : I1 4 0 = (n : Int) := by
    rw [a1 4 (by omega) (by omega)]
    exact o.2.1.1.trans en
  have pl := l_lk11 (d := d + 5) (J := J) s sm e5 7 0 999991 rfl
  have pl' : lp (d + 5) 89 999999 11 [some (iR (some 83)), some (iR (some 4)), none, some (iI 0), some (iI 0), none] [] (st h I1 J) = _ := pl
  rcases t_isFound (d := d + 4) (I := I1) (J := J) s (n : Int) ((packA a : Nat) : Int) with ⟨⟨f2, f3, fS⟩, f4⟩ | f4
  · -- found already
    refine ⟨h, I1, J, ow.lk fun b z1 _ z3 _ => a1 b z1 z3, ⟨f2, f3, fun j hj => by rw [← fS j hj]; exact a2 j hj⟩, ow.keep ar (by rw [← a1 83 (by omega) (by omega)]; exact f2) (by rw [← a1 83 (by omega) (by omega)]; exact f3) (fun j hj => by rw [← a1 85 (by omega) (by omega), ← fS j hj]; exact (a2 j hj).symm) (fun b hb => a1 b (by omega) (by omega)), ?_⟩
    have f4' : rn (d + 5) 92 [iR (some 83), iI (n : Int), iI ((packA a : Nat) : Int)] (st h I1 J) = _ := f4
    rw [r_Wh_look, e_Wh_look, yck t83, a3, kV_o, pl', e_Wh_look_11, if_neg (by omega), xB_s, ygIv (aT_4 s) e40, yck t83, f4', kI_o, if_neg (by omega)]
  · obtain ⟨I2, eI2⟩ : ∃ I2, I2 = up (up I1 83 2 (n : Int)) 83 3 ((packA a : Nat) : Int) := ⟨_, rfl⟩
    obtain ⟨I3, eI3⟩ : ∃ I3, I3 = cpy I2 84 0 85 0 49 := ⟨_, rfl⟩
    have fr2 : ∀ b, b ≠ 83 → I2 b = I1 b := fun b z => by rw [eI2, up_na z, up_na z]
    have fr3 : ∀ b, b ≠ 83 → b ≠ 85 → I3 b = I1 b := fun b z1 z2 => by rw [eI3, cpy_n z2, fr2 b z1]
    have g2 : I3 83 2 = (n : Int) := by rw [eI3, cpy_n (by omega), eI2, up_ni (by omega), up_eq]
    have g3 : I3 83 3 = ((packA a : Nat) : Int) := by rw [eI3, cpy_n (by omega), eI2, up_eq]
    have g85 : ∀ j, j < 49 → I3 85 j = rowF n snd j := fun j hj => by
      rw [eI3, cpy_at (by omega), fr2 84 (by omega), show 0 + (j - 0) = j by omega]
      exact a2 j hj
    have ph := l_lk86 (d := d + 5) (h := h) (I := I3) (J := J) ((packA a : Nat) : Int) 7 0 999983 rfl
    have ph' : lp (d + 5) 89 999991 86 [some (iR (some 83)), some (iR (some 4)), none, some (iI ((packA a : Nat) : Int)), some (iI 0), some (iI 0)] [] (st h I3 J) = _ := ph
    have f4' : rn (d + 5) 92 [iR (some 83), iI (n : Int), iI ((packA a : Nat) : Int)] (st h I1 J) = _ := f4
    have head : ∀ (X : Option IR), lp (d + 5) 89 (999983 + 1) 86 [some (iR (some 83)), some (iR (some 4)), none, some (iI ((packA a : Nat) : Int)), some (iI (packA (fun i => i) : Nat)), some (iI 7)] [] (st h I3 J) = X → rn (d + 6) 89 [iR (some 83), iR (some 4), iR (some 52)] (st h I J) = X := by
      intro X hX
      rw [r_Wh_look, e_Wh_look, yck t83, a3, kV_o, pl', e_Wh_look_11, if_neg (by omega), xB_s, ygIv (aT_4 s) e40, yck t83, f4', kI_o, if_pos rfl, xB_s, ygIv (aT_4 s) e40, ypI t83 (by omega), ypI t83 (by omega), ← eI2, ygR t83 (aR_83_4 s), ygR t83 (aR_83_5 s), ycpv (x := 0) (y := 0) (z := 49) (i := 0) (j := 0) (c := 49) (aT_84 s) (aT_85 s) (by omega) (by omega) (by omega) (aL_84 s) (aL_85 s) rfl rfl rfl (by omega) (by omega), ← eI3]
      exact ph'.trans hX
    by_cases c : packA a = packA (fun i => i)
    · -- home it is
      have na := (id_pack hn p ta).1 c
      refine ⟨h, up I3 83 0 0, J, ow.lk fun b z1 z2 z3 z4 => by rw [up_na z2, fr3 b z2 z4, a1 b z1 z3], ⟨by rw [up_ni (by omega)]; exact g2, by rw [up_ni (by omega)]; exact g3, fun j hj => by rw [up_na (by omega)]; exact g85 j hj⟩, ?_, head _ ?_⟩
      · have hm : ∀ Q P : Nat → Int, HmA n (bfsB n snd a) (up I3 83 0 0 83) Q P := fun Q P => by
          rw [bfs_home na]
          refine Or.inr ⟨?_, ?_, Or.inl (up_eq _ _ _ _)⟩
          · show (decide (numA n a = 0) || false) = true
            simp [na]
          · rw [up_eq]
            have e0 : idxB (nmB n (st0B a)) 0 (st0B a).1 = 0 := by
              show (if numA n a = 0 then 0 else 0) = 0
              split <;> rfl
            rw [e0, dep_0]
            rfl
        rcases ow with ⟨o1, -⟩ | ⟨qc, pc, sc, o1, -⟩
        · exact ⟨fun _ => 0, fun _ => 0, hm _ _, Or.inl ⟨o1, fun _ => rfl, fun _ => rfl⟩⟩
        · exact ⟨_, _, hm _ _, Or.inr ⟨qc, pc, sc, o1, rfl, rfl⟩⟩
      · rw [e_Wh_look_86, if_neg (by omega), if_pos (by rw [c]), ypI t83 (by omega)]
    · have na : numA n a ≠ 0 := fun z => c ((id_pack hn p ta).2 z)
      obtain ⟨h4, I4, J4, qc, pc, sc, g, wy, ⟨b1, b2⟩, ⟨w, bo⟩, b3⟩ := t_search (d := d + 1) (I := I3) (J := J) (snd := snd) s hN118 ow.y ar na (fun j hj => by rw [fr3 84 (by omega) (by omega)]; exact a2 j hj)
      obtain ⟨v, ev⟩ : ∃ v : Int, v = (if inB (nmB n (bfsB n snd a)) 0 (bfsB n snd a).1 = true then (depB (bfsB n snd a) (bfsB n snd a).1 (idxB (nmB n (bfsB n snd a)) 0 (bfsB n snd a).1) : Int) else -1) := ⟨_, rfl⟩
      rw [← ev] at b3
      have s4 := g.t hN118 s
      obtain ⟨-, ⟨-, -, q3⟩, ⟨-, -, p3⟩, -, -⟩ := id wy
      have hq : ∀ b, b < 118 → b ≠ qc ∧ b ≠ pc := fun b hb => ⟨by omega, by omega⟩
      refine ⟨h4, up I4 83 0 v, J4, Or.inr ⟨qc, pc, sc, g, wy, fun b z0 z1 z2 z3 z4 z5 z6 => by rw [up_na z2, b1 b z0 z2 z5 z6, fr3 b z2 z4, a1 b z1 z3]⟩, ⟨by rw [up_ni (by omega), b2 2 (by omega)]; exact g2, by rw [up_ni (by omega), b2 3 (by omega)]; exact g3, fun j hj => by rw [up_na (by omega), b1 85 (by omega) (by omega) (by omega) (by omega)]; exact g85 j hj⟩, ⟨I4 qc, I4 pc, ?_, Or.inr ⟨qc, pc, sc, wy, by rw [up_na (by omega)], by rw [up_na (by omega)]⟩⟩, head _ ?_⟩
      · have w3 := w.2.2.1
        cases e : inB (nmB n (bfsB n snd a)) 0 (bfsB n snd a).1 with
        | false =>
          rw [e, if_neg (show ¬ (false = true) by decide)] at ev
          exact Or.inl ⟨e, by rw [up_eq]; exact ev⟩
        | true =>
          rw [e, if_pos (show (true = true) from rfl)] at ev w3
          exact Or.inr ⟨e, by rw [up_eq]; exact ev, Or.inr ⟨by rw [up_ni (by omega)]; exact w3, w.1⟩⟩
      · have e30 : I3 4 0 = (n : Int) := by rw [fr3 4 (by omega) (by omega)]; exact e40
        have b3' : rn (d + 5) 94 [iR (some 83), iI (n : Int), iI (packA a : Nat), iI (packA (fun i => i) : Nat)] (st h I3 J) = _ := b3
        rw [e_Wh_look_86, if_neg (by omega), if_neg (fun z => c (by omega)), xB_s, ygIv (aT_4 s) e30, yck t83, b3', kI_o, ypI (aT_83 s4) (by omega)]
end P98zu
