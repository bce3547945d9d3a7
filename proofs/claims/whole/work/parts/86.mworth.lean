/-! What each town could have, what it is worth: the reference (by program, wip/whole/gen86.py) -/
noncomputable def okM (K : Nat → Int) (L : LwV) (an : Int) (t s : Nat) : Bool := decide (haveK K L (t : Int) (s : Int) = 1) && (decide (an = 0) || decide (K (14 + (7 * t + s)) = 0))
noncomputable def wM (K : Nat → Int) (L : LwV) (an : Int) (n t s : Nat) : Int := if t < n ∧ s < n then (if an = 0 then likeK K L (t : Int) (s : Int) else -(milesK K (atK K (s : Int)) (t : Int))) else 0
section P86a
variable {K : Nat → Int} {L : LwV}
theorem likeK_in (k : KOk K) {t s : Int} (hs : 0 ≤ s ∧ s < 7) : 0 ≤ likeK K L t s ∧ likeK K L t s ≤ 99 := by
  have hb := (k.2.2.1.1 s.toNat (by omega)).1
  unfold likeK tellK
  cases L with
  | none =>
    show 0 ≤ K (7 + s.toNat) ∧ K (7 + s.toNat) ≤ 99
    omega
  | some x =>
    show 0 ≤ toldC x.2 _ 4 99 (K (7 + s.toNat)) x.1 ∧ toldC x.2 _ 4 99 (K (7 + s.toNat)) x.1 ≤ 99
    rw [toldC_last]
    unfold clmp
    (repeat' split) <;> omega
theorem altK_in (k : KOk K) {t s : Int} (hs : 0 ≤ s ∧ s < 7) : 0 ≤ altK K L t s ∧ altK K L t s ≤ 9 := by
  have hb := (k.2.2.1.1 s.toNat (by omega)).1
  unfold altK tellK
  cases L with
  | none =>
    show 0 ≤ K (7 + s.toNat) ∧ K (7 + s.toNat) ≤ 9
    omega
  | some x =>
    show 0 ≤ toldC x.2 _ 5 9 (K (7 + s.toNat)) x.1 ∧ toldC x.2 _ 5 9 (K (7 + s.toNat)) x.1 ≤ 9
    rw [toldC_last]
    unfold clmp
    (repeat' split) <;> omega
theorem wM_in (k : KOk K) {n : Nat} (hn : (n : Int) = K 183) (an : Int) (t s : Nat) : -1000 ≤ wM K L an n t s ∧ wM K L an n t s ≤ 1000 := by
  have h7 := k.1
  unfold wM
  by_cases c : t < n ∧ s < n
  · rw [if_pos c]
    have h1 := likeK_in (L := L) k (t := (t : Int)) (s := (s : Int)) (by omega)
    have h2 := atK_ok k (s := (s : Int)) (by omega)
    have h3 := milesK_in k (p := atK K (s : Int)) (t := (t : Int)) (by omega) (by omega)
    split <;> omega
  · rw [if_neg c]
    omega
theorem haveK_01 (t s : Int) : haveK K L t s = 0 ∨ haveK K L t s = 1 := by
  unfold haveK
  split
  · exact Or.inr rfl
  · unfold sendK
    split
    · exact Or.inr rfl
    · exact Or.inl rfl
theorem sendK_01 (p t s : Int) : sendK K L p t s = 0 ∨ sendK K L p t s = 1 := by
  unfold sendK
  split
  · exact Or.inr rfl
  · exact Or.inl rfl
end P86a
/-- what laying the worths leaves as it is -/
def LwFr (I' I : Nat → Nat → Int) : Prop := (∀ b, b ≠ 88 → b ≠ 100 → b ≠ 106 → b ≠ 107 → I' b = I b) ∧ ∀ i, i ≠ 22 → i ≠ 23 → i ≠ 24 → i ≠ 25 → I' 88 i = I 88 i
theorem LwFr.rf (I : Nat → Nat → Int) : LwFr I I := ⟨fun _ _ _ _ _ => rfl, fun _ _ _ _ _ => rfl⟩
theorem LwFr.tr {A B C : Nat → Nat → Int} (h1 : LwFr A B) (h2 : LwFr B C) : LwFr A C := ⟨fun b q1 q2 q3 q4 => (h1.1 b q1 q2 q3 q4).trans (h2.1 b q1 q2 q3 q4), fun i q1 q2 q3 q4 => (h1.2 i q1 q2 q3 q4).trans (h2.2 i q1 q2 q3 q4)⟩
theorem AsFr.lw {A B : Nat → Nat → Int} (h : AsFr A B) : LwFr A B := ⟨fun b q1 q2 _ _ => h.1 b q1 q2, h.2⟩
theorem LwFr.r6 (I : Nat → Nat → Int) (i : Nat) (x : Int) : LwFr (up I 106 i x) I := ⟨fun b _ _ q3 _ => up_na q3, fun i _ _ _ _ => by rw [up_na (by omega)]⟩
theorem LwFr.r7 (I : Nat → Nat → Int) (i : Nat) (x : Int) : LwFr (up I 107 i x) I := ⟨fun b _ _ _ q4 => up_na q4, fun i _ _ _ _ => by rw [up_na (by omega)]⟩
section P86
variable {d n : Nat} {h : IH} {J : Nat → Nat → Int} {L : LwV} {K : Nat → Int} {an : Int}
def WdOk (I : Nat → Nat → Int) (n : Nat) (K : Nat → Int) (L : LwV) (an : Int) (t s : Nat) : Prop := ∀ t' s', t' < n → s' < n → (t' < t ∨ (t' = t ∧ s' < s)) → I 107 (7 * t' + s') = (if okM K L an t' s' = true then 1 else 0) ∧ I 106 (7 * t' + s') = wM K L an n t' s'
theorem WdOk.step {I I' : Nat → Nat → Int} {t s : Nat} (hw : WdOk I n K L an t s) (hn : n ≤ 7) (ht : t < n) (hs : s < n) (o : ∀ i, i ≠ 7 * t + s → I' 107 i = I 107 i ∧ I' 106 i = I 106 i) (a : I' 107 (7 * t + s) = (if okM K L an t s = true then 1 else 0)) (b : I' 106 (7 * t + s) = wM K L an n t s) : WdOk I' n K L an t (s + 1) := by
  intro t' s' ht' hs' hlt
  by_cases c : 7 * t' + s' = 7 * t + s
  · have : t' = t ∧ s' = s := by omega
    obtain ⟨rfl, rfl⟩ := this
    exact ⟨a, b⟩
  · rw [(o _ c).1, (o _ c).2]
    exact hw t' s' ht' hs' (by omega)
/-- the worth of a pair is laid -/
theorem l_worth (s : ShM h 88) {I : Nat → Nat → Int} (e90 : I 90 = K) (k : KOk K) (hL : LwR K L) (en : K 183 = (n : Int)) (ha : an = 0 ∨ an = 1) {t u : Nat} (ht : t < n) (hu : u < n) (f : Nat) : ∃ I', LwFr I' I ∧ I' 107 = I 107 ∧ (∀ i, i ≠ 7 * t + u → I' 106 i = I 106 i) ∧ I' 106 (7 * t + u) = wM K L an n t u ∧ (if an = 0 then xck (st h I J) 88 22 <| kI (rn (d + 46) 221 [iR (some 88), iI (t : Int), iI (u : Int)] (st h I J)) fun x h1 => xB (some 106) fun a => xsI h1 a (7 * (t : Int) + (u : Int)) x fun h2 => lp (d + 46) 249 f 12 [some (iR (some 88)), some (iI an), some (iI (t : Int)), some (iI (wr ((u : Int) + 1))), none] [] h2
      else xck (st h I J) 88 22 <| kI (rn (d + 46) 220 [iR (some 88), iI (t : Int), iI (u : Int)] (st h I J)) fun x h1 => xB (some 106) fun a => xsI h1 a (7 * (t : Int) + (u : Int)) (wr (-x)) fun h2 => lp (d + 46) 249 f 12 [some (iR (some 88)), some (iI an), some (iI (t : Int)), some (iI (wr ((u : Int) + 1))), none] [] h2) = lp (d + 46) 249 f 12 [some (iR (some 88)), some (iI an), some (iI (t : Int)), some (iI ((u + 1 : Nat) : Int)), none] [] (st h I' J) := by
  have h7 := k.1
  have k' : KOk (I 90) := by rw [e90]; exact k
  have wu : wr ((u : Int) + 1) = ((u + 1 : Nat) : Int) := by rw [wr_id (by omega) (by omega)]; rfl
  have ew : wM K L an n t u = (if an = 0 then likeK K L (t : Int) (u : Int) else -(milesK K (atK K (u : Int)) (t : Int))) := if_pos ⟨ht, hu⟩
  rcases ha with rfl | rfl
  · obtain ⟨I1, a1, a2⟩ := m_like (d := d + 2) (J := J) (L := L) s k' (by rw [e90]; exact hL) (t := (t : Int)) (u := (u : Int)) (by rw [e90]; omega) (by rw [e90]; omega)
    refine ⟨up I1 106 (7 * t + u) (likeK K L (t : Int) (u : Int)), (LwFr.r6 _ _ _).tr a1.lw, by rw [up_na (by omega), a1.1 107 (by omega) (by omega)], fun i hi => by rw [up_ni hi, a1.1 106 (by omega) (by omega)], by rw [up_eq, ew, if_pos rfl], ?_⟩
    rw [if_pos rfl, yck (bT_88 s), a2, kI_o, xB_s, zSI (i := 7 * t + u) (bT_106 s) (by omega) (bL_106 s) (by omega) (by omega), wu, e90]
  · have hm := atK_ok k (s := (u : Int)) (by omega)
    have hmi := milesK_in k (p := atK K (u : Int)) (t := (t : Int)) (by omega) (by omega)
    refine ⟨up I 106 (7 * t + u) (-(milesK K (atK K (u : Int)) (t : Int))), LwFr.r6 _ _ _, by rw [up_na (by omega)], fun i hi => by rw [up_ni hi], by rw [up_eq, ew, if_neg (by decide)], ?_⟩
    rw [if_neg (by decide), yck (bT_88 s), s_milesFor (d := d + 43) s k' (by rw [e90]; omega) (by rw [e90]; omega), kI_o, xB_s, e90, wr_id (by omega) (by omega), zSI (i := 7 * t + u) (bT_106 s) (by omega) (bL_106 s) (by omega) (by omega), wu]
theorem l_lw12 (s : ShM h 88) (k : KOk K) (hL : LwR K L) (en : K 183 = (n : Int)) (ha : an = 0 ∨ an = 1) {t : Nat} (ht : t < n) : ∀ (m u f : Nat) (I : Nat → Nat → Int), u + m = n → I 90 = K → WdOk I n K L an t u → ∃ I', LwFr I' I ∧ lp (d + 46) 249 (f + m + 1) 12 [some (iR (some 88)), some (iI an), some (iI (t : Int)), some (iI (u : Int)), none] [] (st h I J) = lp (d + 46) 249 f 2 [some (iR (some 88)), some (iI an), some (iI ((t + 1 : Nat) : Int)), none, none] [] (st h I' J) ∧ WdOk I' n K L an (t + 1) 0 := by
  have h7 := k.1
  intro m
  induction m with
  | zero =>
    intro u f I hk e90 hw
    refine ⟨I, LwFr.rf I, ?_, fun t' s' h1 h2 h3 => hw t' s' h1 h2 (by omega)⟩
    rw [Nat.add_zero, e_M_laysWorths_12, yck (bT_88 s), s_townMany (d := d + 45) s, kI_o, show I (88 + 2) 183 = (n : Int) by show I 90 183 = _; rw [e90, en], if_neg (by omega), wr_id (by omega) (by omega)]
    rfl
  | succ m ih =>
    intro u f I hk e90 hw
    have hu : u < n := by omega
    have k' : KOk (I 90) := by rw [e90]; exact k
    obtain ⟨I1, a1, a2⟩ := m_have (d := d) (J := J) (L := L) s k' (by rw [e90]; exact hL) (t := (t : Int)) (u := (u : Int)) (by rw [e90]; omega) (by rw [e90]; omega)
    rw [e90] at a2
    have hsB : ∀ (x : Int) (K2 : IH → Option IR), (x = 0 ∨ x = 1) → xsB (st h I1 J) 107 (7 * (t : Int) + (u : Int)) x K2 = K2 (st h (up I1 107 (7 * t + u) x) J) := by
      intro x K2 hx
      rw [ysB3 (bT_107 s) (by omega) (bL_107 s) (by omega) (by omega), show (7 * (t : Int) + (u : Int)).toNat = 7 * t + u by omega]
      rcases hx with rfl | rfl
      · rw [n1_0]
      · rw [n1_1]
    -- behind the store of whether it can be had
    have fin : ∀ x : Int, x = (if okM K L an t u = true then 1 else 0) → ∃ I', LwFr I' I ∧ (if an = 0 then xck (st h (up I1 107 (7 * t + u) x) J) 88 22 <| kI (rn (d + 46) 221 [iR (some 88), iI (t : Int), iI (u : Int)] (st h (up I1 107 (7 * t + u) x) J)) fun x h1 => xB (some 106) fun a => xsI h1 a (7 * (t : Int) + (u : Int)) x fun h2 => lp (d + 46) 249 (f + m + 1) 12 [some (iR (some 88)), some (iI an), some (iI (t : Int)), some (iI (wr ((u : Int) + 1))), none] [] h2
      else xck (st h (up I1 107 (7 * t + u) x) J) 88 22 <| kI (rn (d + 46) 220 [iR (some 88), iI (t : Int), iI (u : Int)] (st h (up I1 107 (7 * t + u) x) J)) fun x h1 => xB (some 106) fun a => xsI h1 a (7 * (t : Int) + (u : Int)) (wr (-x)) fun h2 => lp (d + 46) 249 (f + m + 1) 12 [some (iR (some 88)), some (iI an), some (iI (t : Int)), some (iI (wr ((u : Int) + 1))), none] [] h2) = lp (d + 46) 249 f 2 [some (iR (some 88)), some (iI an), some (iI ((t + 1 : Nat) : Int)), none, none] [] (st h I' J) ∧ WdOk I' n K L an (t + 1) 0 := by
      intro x hx
      obtain ⟨I2, b1, b2, b3, b4, b5⟩ := l_worth (d := d) (J := J) (I := up I1 107 (7 * t + u) x) s (by rw [up_na (by omega), a1.1 90 (by omega) (by omega)]; exact e90) k hL en ha ht hu (f + m + 1)
      have fr : LwFr I2 I := (b1.tr (LwFr.r7 _ _ _)).tr a1.lw
      obtain ⟨I3, c1, c2, c3⟩ := ih (u + 1) f I2 (by omega) (by rw [fr.1 90 (by omega) (by omega) (by omega) (by omega)]; exact e90) (hw.step (by omega) ht hu (fun i hi => ⟨by rw [b2, up_ni hi, a1.1 107 (by omega) (by omega)], by rw [b3 i hi, up_na (by omega), a1.1 106 (by omega) (by omega)]⟩) (by rw [b2, up_eq]; exact hx) b4)
      exact ⟨I3, c1.tr fr, b5.trans c2, c3⟩
    have hd : ∀ x : Int, lp (d + 46) 249 (f + (m + 1) + 1) 12 [some (iR (some 88)), some (iI an), some (iI (t : Int)), some (iI (u : Int)), none] [] (st h I J) = _ := fun x => by
      rw [show f + (m + 1) + 1 = (f + m + 1) + 1 by omega, e_M_laysWorths_12, yck (bT_88 s), s_townMany (d := d + 45) s, kI_o, show I (88 + 2) 183 = (n : Int) by show I 90 183 = _; rw [e90, en], if_pos (by omega), s_pairAt (d := d + 45) _ (by omega) (by omega), kI_o, ygR (bT_88 s) (bR_36 s), yck (bT_88 s), a2, kI_o]
    rw [hd 0]
    rcases haveK_01 (K := K) (L := L) (t : Int) (u : Int) with c | c
    · have eo : (if okM K L an t u = true then (1 : Int) else 0) = 0 := if_neg (by unfold okM; simp [c])
      obtain ⟨I', f1, f2, f3⟩ := fin 0 eo.symm
      refine ⟨I', f1, ?_, f3⟩
      rw [if_pos c, xB_s, hsB 0 _ (Or.inl rfl), ygR (bT_88 s) (bR_35 s)]
      exact f2
    · rw [if_neg (by rw [c]; decide)]
      rcases ha with rfl | rfl
      · have eo : (if okM K L 0 t u = true then (1 : Int) else 0) = 1 := if_pos (by unfold okM; simp [c])
        obtain ⟨I', f1, f2, f3⟩ := fin 1 eo.symm
        refine ⟨I', f1, ?_, f3⟩
        rw [if_pos rfl, xB_s, hsB 1 _ (Or.inr rfl), ygR (bT_88 s) (bR_35 s)]
        exact f2
      · have e14 : ∀ K2 : Int → Option IR, xaI (st h I1 J) 90 (wr (14 + (7 * (t : Int) + (u : Int)))) K2 = K2 (K (14 + (7 * t + u))) := fun K2 => by
          rw [zAI (i := 14 + (7 * t + u)) (bT_90 s) (bL_90 s) (by rw [wr_id (by omega) (by omega)]; omega) (by omega), a1.1 90 (by omega) (by omega), e90]
        rw [if_neg (by decide), ygR (bT_88 s) (bR_2 s), xB_s, e14]
        by_cases c2 : K (14 + (7 * t + u)) = 0
        · have eo : (if okM K L 1 t u = true then (1 : Int) else 0) = 1 := if_pos (by unfold okM; simp [c, c2])
          obtain ⟨I', f1, f2, f3⟩ := fin 1 eo.symm
          refine ⟨I', f1, ?_, f3⟩
          rw [if_pos c2, xB_s, hsB 1 _ (Or.inr rfl), ygR (bT_88 s) (bR_35 s)]
          exact f2
        · have eo : (if okM K L 1 t u = true then (1 : Int) else 0) = 0 := if_neg (by unfold okM; simp [c2])
          obtain ⟨I', f1, f2, f3⟩ := fin 0 eo.symm
          refine ⟨I', f1, ?_, f3⟩
          rw [if_neg c2, xB_s, hsB 0 _ (Or.inl rfl), ygR (bT_88 s) (bR_35 s)]
          exact f2
theorem l_lw2 (s : ShM h 88) (k : KOk K) (hL : LwR K L) (en : K 183 = (n : Int)) (ha : an = 0 ∨ an = 1) : ∀ (m t f : Nat) (I : Nat → Nat → Int), t + m = n → I 90 = K → WdOk I n K L an t 0 → ∃ I', LwFr I' I ∧ lp (d + 46) 249 (f + 10 * m + 1) 2 [some (iR (some 88)), some (iI an), some (iI (t : Int)), none, none] [] (st h I J) = some (o0, st h I' J) ∧ WmOk I' n (okM K L an) (wM K L an n) := by
  have h7 := k.1
  intro m
  induction m with
  | zero =>
    intro t f I hk e90 hw
    refine ⟨I, LwFr.rf I, ?_, fun t' s' h1 h2 => hw t' s' h1 h2 (by omega)⟩
    rw [show f + 10 * 0 + 1 = f + 1 by omega, e_M_laysWorths_2, yck (bT_88 s), s_townMany (d := d + 45) s, kI_o, show I (88 + 2) 183 = (n : Int) by show I 90 183 = _; rw [e90, en], if_neg (by omega)]
  | succ m ih =>
    intro t f I hk e90 hw
    obtain ⟨I1, a1, a2, a3⟩ := l_lw12 (d := d) (J := J) s k hL en ha (t := t) (by omega) n 0 (f + 10 * m + 1 + (8 - n)) I (by omega) e90 hw
    obtain ⟨I2, b1, b2, b3⟩ := ih (t + 1) (f + (8 - n)) I1 (by omega) (by rw [a1.1 90 (by omega) (by omega) (by omega) (by omega)]; exact e90) a3
    refine ⟨I2, b1.tr a1, ?_, b3⟩
    have a2' : lp (d + 46) 249 (f + 10 * m + 1 + (8 - n) + n + 1) 12 [some (iR (some 88)), some (iI an), some (iI (t : Int)), some (iI 0), none] [] (st h I J) = _ := a2
    rw [show f + 10 * (m + 1) + 1 = (f + 10 * m + 1 + (8 - n) + n + 1) + 1 by omega, e_M_laysWorths_2, yck (bT_88 s), s_townMany (d := d + 45) s, kI_o, show I (88 + 2) 183 = (n : Int) by show I 90 183 = _; rw [e90, en], if_pos (by omega), a2', show f + 10 * m + 1 + (8 - n) = f + (8 - n) + 10 * m + 1 by omega]
    exact b2
theorem s_worths (s : ShM h 88) {I : Nat → Nat → Int} (k : KOk (I 90)) (hL : LwR (I 90) L) (en : I 90 183 = (n : Int)) (ha : an = 0 ∨ an = 1) : ∃ I', LwFr I' I ∧ rn (d + 47) 249 [iR (some 88), iI an] (st h I J) = some (o0, st h I' J) ∧ WmOk I' n (okM (I 90) L an) (wM (I 90) L an n) := by
  have h7 := k.1
  obtain ⟨I', a1, a2, a3⟩ := l_lw2 (d := d) (J := J) s k hL en ha n 0 (999998 - 10 * n) I (by omega) rfl (fun t' s' _ _ h3 => by omega)
  rw [show 999998 - 10 * n + 10 * n + 1 = 999999 by omega] at a2
  refine ⟨I', a1, ?_, a3⟩
  rw [r_M_laysWorths, e_M_laysWorths]
  exact a2
end P86
