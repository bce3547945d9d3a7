/-! What could be sent: the class's bits (by program, wip/whole/gen98zk.py) -/
def SfT (I : Nat → Nat → Int) (n : Nat) (snd : Nat → Nat → Nat → Bool) (cur : Nat) : Prop := ∀ j, j < 49 → I 84 j = if j < cur then rowF n snd j else 0
def FsFr (I' I : Nat → Nat → Int) : Prop := ∀ b, (b < 52 ∨ 55 < b) → b ≠ 84 → I' b = I b
section P98zk
variable {d n : Nat} {I I' J A B C : Nat → Nat → Int} {h : IH} {K : Nat → Int} {LW : Nat → Nat × (Nat → Cls)} {snd : Nat → Nat → Nat → Bool}
theorem FsFr.rf (I : Nat → Nat → Int) : FsFr I I := fun _ _ _ => rfl
theorem FsFr.tr (h1 : FsFr A B) (h2 : FsFr B C) : FsFr A C := fun b q1 q2 => (h1 b q1 q2).trans (h2 b q1 q2)
theorem NowOk.fs (o : NowOk h I K LW) (f : FsFr I' I) : NowOk h I' K LW := ⟨o.1, o.2.1.fr4 o.2.2.2.2 fun b hb => f b (by omega) (by omega), o.2.2⟩
theorem t_snd (o : NowOk h I K LW) {s p t : Nat} (hs : s < 7) (hp : p < 7) (ht : t < 7) : ∃ I1, Fr I1 I 52 55 ∧ rn (d + 4) 3 [iR (some 52), iR (some 4), iI (s : Int), iI (p : Int), iI (t : Int)] (st h I J) = some (oI (sendK K (lvOf K LW) (s : Int) (p : Int) (t : Int)), st h I1 J) := by
  obtain ⟨I1, a1, a2⟩ := l_send (d := d) (J := J) o.lj (s := (s : Int)) (p := (p : Int)) (t := (t : Int)) (by omega) (by omega) (by omega)
  rw [o.2.1.send o.2.2.1 o.2.2.2.1 (by omega) (by omega) (by omega)] at a2
  exact ⟨I1, a1, a2⟩
theorem l_fs33 (oN : NowOk h I K LW) (en : K 183 = (n : Int)) {s p : Nat} (hs : s < n) (hp : p < n) : ∀ (q t f : Nat) (I' : Nat → Nat → Int), t + q = n → FsFr I' I → (∀ j, j < 49 → I' 84 j = if j < 7 * s + p then rowF n (sndK K (lvOf K LW)) j else if j = 7 * s + p then ((mkB (sndK K (lvOf K LW) s p) t : Nat) : Int) else 0) → ∃ I1, FsFr I1 I ∧ SfT I1 n (sndK K (lvOf K LW)) (7 * s + p + 1) ∧ lp (d + 4) 91 (f + q + 1) 33 [some (iR (some 83)), some (iR (some 4)), some (iR (some 52)), some (iI (s : Int)), some (iI (p : Int)), some (iI (t : Int))] [] (st h I' J) = lp (d + 4) 91 f 21 [some (iR (some 83)), some (iR (some 4)), some (iR (some 52)), some (iI (s : Int)), some (iI ((p + 1 : Nat) : Int)), none] [] (st h I1 J) := by
  have s0 := oN.1
  have hn := oN.2.2.1.1
  intro q
  induction q with
  | zero =>
    intro t f I' ht fr e
    have oo := oN.fs fr
    refine ⟨I', fr, fun j hj => ?_, ?_⟩
    · rw [e j hj, show t = n by omega]
      by_cases c : j < 7 * s + p
      · rw [if_pos c, if_pos (by omega)]
      · rw [if_neg c]
        by_cases c2 : j = 7 * s + p
        · rw [if_pos c2, if_pos (by omega), c2]
          unfold rowF
          rw [show (7 * s + p) / 7 = s by omega, show (7 * s + p) % 7 = p by omega, if_pos ⟨hs, hp⟩]
        · rw [if_neg c2, if_neg (by omega)]
    · rw [Nat.add_zero, e_Wh_fillSendable_33, xB_s, ygIv (x := (n : Int)) (aT_4 s0) (by rw [oo.2.1.1, en]), if_neg (by omega), wr_id (x := (p : Int) + 1) (by omega) (by omega)]
      rfl
  | succ q ih =>
    intro t f I' ht fr e
    have oo := oN.fs fr
    obtain ⟨I2, a1, a2⟩ := t_snd (d := d) (J := J) oo (s := s) (p := p) (t := t) (by omega) (by omega) (by omega)
    have fr2 : FsFr I2 I := fun b q1 q2 => (a1 b (by omega)).trans (fr b q1 q2)
    have w1 : wr ((t : Int) + 1) = ((t + 1 : Nat) : Int) := by rw [wr_id (by omega) (by omega)]; omega
    have wi : wr ((wr ((s : Int) * 7)) + (p : Int)) = ((7 * s + p : Nat) : Int) := by
      rw [wr_id (x := (s : Int) * 7) (by omega) (by omega), wr_id (by omega) (by omega)]
      omega
    have ec : I2 84 (7 * s + p) = ((mkB (sndK K (lvOf K LW) s p) t : Nat) : Int) := by rw [a1 84 (by omega), e _ (by omega), if_neg (by omega), if_pos rfl]
    rw [show f + (q + 1) + 1 = (f + q + 1) + 1 by omega, e_Wh_fillSendable_33, xB_s, ygIv (x := (n : Int)) (aT_4 s0) (by rw [oo.2.1.1, en]), if_pos (by omega), xB_s, yck (aT_52 s0), a2, kI_o, w1, wi]
    rcases sendK_01 (K := K) (L := lvOf K LW) (s : Int) (p : Int) (t : Int) with z | z
    · have hz : ¬ sndK K (lvOf K LW) s p t = true := by
        unfold sndK
        rw [z]
        decide
      obtain ⟨I1, b1, b2, b3⟩ := ih (t + 1) f I2 (by omega) fr2 (fun j hj => by rw [a1 84 (by omega), e j hj, mkB_n hz])
      rw [if_pos z]
      exact ⟨I1, b1, b2, b3⟩
    · have hz : sndK K (lvOf K LW) s p t = true := by
        unfold sndK
        rw [z]
        rfl
      obtain ⟨I1, b1, b2, b3⟩ := ih (t + 1) f (up I2 84 (7 * s + p) ((mkB (sndK K (lvOf K LW) s p) (t + 1) : Nat) : Int)) (by omega) (fun b q1 q2 => by rw [up_na q2]; exact fr2 b q1 q2) (fun j hj => by
        rw [up_at]
        by_cases c : j = 7 * s + p
        · rw [if_pos c, if_neg (by omega), if_pos c]
        · rw [if_neg c, a1 84 (by omega), e j hj, if_neg c, if_neg c])
      refine ⟨I1, b1, b2, ?_⟩
      rw [if_neg (by rw [z]; decide), ygR (aT_83 s0) (aR_83_4 s0), xB_s, yaIv (i := 7 * s + p) (aT_84 s0) (aL_84 s0) rfl (by omega) ec, xB_s, zSI (i := 7 * s + p) (aT_84 s0) (by omega) (aL_84 s0) rfl (by omega), mkB_y (by omega) hz]
      exact b3
theorem l_fs21 (oN : NowOk h I K LW) (en : K 183 = (n : Int)) {s : Nat} (hs : s < n) : ∀ (q p f : Nat) (I' : Nat → Nat → Int), p + q = n → FsFr I' I → SfT I' n (sndK K (lvOf K LW)) (7 * s + p) → ∃ (I1 : Nat → Nat → Int) (f' : Nat), FsFr I1 I ∧ SfT I1 n (sndK K (lvOf K LW)) (7 * (s + 1)) ∧ f ≤ f' ∧ lp (d + 4) 91 (f + 10 * q + 1) 21 [some (iR (some 83)), some (iR (some 4)), some (iR (some 52)), some (iI (s : Int)), some (iI (p : Int)), none] [] (st h I' J) = lp (d + 4) 91 f' 10 [some (iR (some 83)), some (iR (some 4)), some (iR (some 52)), some (iI ((s + 1 : Nat) : Int)), none, none] [] (st h I1 J) := by
  have s0 := oN.1
  have hn := oN.2.2.1.1
  intro q
  induction q with
  | zero =>
    intro p f I' hp fr e
    have oo := oN.fs fr
    refine ⟨I', f, fr, fun j hj => ?_, Nat.le_refl _, ?_⟩
    · rw [e j hj]
      by_cases c : j < 7 * s + p
      · rw [if_pos c, if_pos (by omega)]
      · rw [if_neg c]
        by_cases c2 : j < 7 * (s + 1)
        · rw [if_pos c2]
          unfold rowF
          rw [if_neg (by omega)]
        · rw [if_neg c2]
    · rw [show f + 10 * 0 + 1 = f + 1 by omega, e_Wh_fillSendable_21, xB_s, ygIv (x := (n : Int)) (aT_4 s0) (by rw [oo.2.1.1, en]), if_neg (by omega), wr_id (x := (s : Int) + 1) (by omega) (by omega)]
      rfl
  | succ q ih =>
    intro p f I' hp fr e
    have oo := oN.fs fr
    obtain ⟨I1, a1, a2, a3⟩ := l_fs33 (d := d) (J := J) oN en hs (show p < n by omega) n 0 (f + 10 * q + 1 + (8 - n)) I' (by omega) fr (fun j hj => by
      rw [e j hj]
      by_cases c : j < 7 * s + p
      · rw [if_pos c, if_pos c]
      · rw [if_neg c, if_neg c]
        by_cases c2 : j = 7 * s + p
        · rw [if_pos c2]
          rfl
        · rw [if_neg c2])
    rw [show f + 10 * q + 1 + (8 - n) + n + 1 = f + 10 * (q + 1) by omega] at a3
    obtain ⟨I2, f', b1, b2, bf, b3⟩ := ih (p + 1) (f + (8 - n)) I1 (by omega) a1 (by rw [show 7 * s + (p + 1) = 7 * s + p + 1 by omega]; exact a2)
    rw [show f + (8 - n) + 10 * q + 1 = f + 10 * q + 1 + (8 - n) by omega] at b3
    refine ⟨I2, f', b1, b2, by omega, ?_⟩
    rw [e_Wh_fillSendable_21, xB_s, ygIv (x := (n : Int)) (aT_4 s0) (by rw [oo.2.1.1, en]), if_pos (by omega)]
    exact a3.trans b3
theorem l_fs10 (oN : NowOk h I K LW) (en : K 183 = (n : Int)) : ∀ (q s f : Nat) (I' : Nat → Nat → Int), s + q = n → FsFr I' I → SfT I' n (sndK K (lvOf K LW)) (7 * s) → ∃ I1, FsFr I1 I ∧ (∀ j, j < 49 → I1 84 j = rowF n (sndK K (lvOf K LW)) j) ∧ lp (d + 4) 91 (f + 100 * q + 1) 10 [some (iR (some 83)), some (iR (some 4)), some (iR (some 52)), some (iI (s : Int)), none, none] [] (st h I' J) = some (o0, st h I1 J) := by
  have s0 := oN.1
  have hn := oN.2.2.1.1
  intro q
  induction q with
  | zero =>
    intro s f I' hs fr e
    have oo := oN.fs fr
    refine ⟨I', fr, fun j hj => ?_, ?_⟩
    · rw [e j hj]
      by_cases c : j < 7 * s
      · rw [if_pos c]
      · rw [if_neg c]
        unfold rowF
        rw [if_neg (by omega)]
    · rw [show f + 100 * 0 + 1 = f + 1 by omega, e_Wh_fillSendable_10, xB_s, ygIv (x := (n : Int)) (aT_4 s0) (by rw [oo.2.1.1, en]), if_neg (by omega)]
  | succ q ih =>
    intro s f I' hs fr e
    have oo := oN.fs fr
    obtain ⟨I1, f', a1, a2, af, a3⟩ := l_fs21 (d := d) (J := J) oN en (show s < n by omega) n 0 (f + 100 * q + 1 + (98 - 10 * n)) I' (by omega) fr (by rw [Nat.add_zero]; exact e)
    rw [show f + 100 * q + 1 + (98 - 10 * n) + 10 * n + 1 = f + 100 * (q + 1) by omega] at a3
    obtain ⟨I2, b1, b2, b3⟩ := ih (s + 1) (f' - (100 * q + 1)) I1 (by omega) a1 a2
    rw [show f' - (100 * q + 1) + 100 * q + 1 = f' by omega] at b3
    refine ⟨I2, b1, b2, ?_⟩
    rw [e_Wh_fillSendable_10, xB_s, ygIv (x := (n : Int)) (aT_4 s0) (by rw [oo.2.1.1, en]), if_pos (by omega)]
    exact a3.trans b3
theorem t_sends (o : NowOk h I K LW) (en : K 183 = (n : Int)) : ∃ I1, FsFr I1 I ∧ (∀ j, j < 49 → I1 84 j = rowF n (sndK K (lvOf K LW)) j) ∧ rn (d + 5) 91 [iR (some 83), iR (some 4), iR (some 52)] (st h I J) = some (o0, st h I1 J) := by
  have s0 := o.1
  have hn := o.2.2.1.1
  obtain ⟨I1, a1, a2, a3⟩ := l_fs10 (d := d) (J := J) o en n 0 (999998 - 100 * n) (fillI I 84 0 49 0) (by omega) (fun b q1 q2 => funext fun _ => if_neg fun z => q2 z.1) (fun j hj => by
    rw [if_neg (by omega)]
    exact if_pos ⟨rfl, by omega, hj⟩)
  rw [show 999998 - 100 * n + 100 * n + 1 = 999999 by omega] at a3
  refine ⟨I1, a1, a2, ?_⟩
  rw [r_Wh_fillSendable, e_Wh_fillSendable, ygR (aT_83 s0) (aR_83_4 s0), s_fillI (d := d + 3) (aT_84 s0) (by omega) (aL_84 s0) (by omega), kV_o]
  exact a3
end P98zk
