/-! The reference's reader: TESTS (by program, wip/whole/gen68.py) -/
def rMap (F : Mng → Mng) : RdR → RdR
  | .inl q => .inl q
  | .inr (p, l, f) => .inr (p, l, F f)
theorem aNegR_map (t : Bool) (x : RdR) : aNegR t x = rMap (fun f => if t = true then negF f else f) x := by
  cases x with
  | inl q => rfl
  | inr y => rfl
theorem aCmp_r {B : Nat → Int} {n : Nat} {sum : Nat → Nat → RdR} {p l p1 l1 : Nat} {f : Mng} (e : sum p l = .inr (p1, l1, f)) (c : tkC B n p1 = 60 ∨ tkC B n p1 = 62 ∨ tkC B n p1 = 61) : aCmp B n sum p l = rMap (binF (opC (tkC B n p1)) f) (sum (tkE B n p1) l1) := by
  unfold aCmp
  rw [e]
  dsimp only
  rw [if_pos c]
  cases sum (tkE B n p1) l1 with
  | inl q => rfl
  | inr y => rfl
theorem aCmp_f {B : Nat → Int} {n : Nat} {sum : Nat → Nat → RdR} {p l p1 l1 : Nat} {f : Mng} (e : sum p l = .inr (p1, l1, f)) (c : ¬ (tkC B n p1 = 60 ∨ tkC B n p1 = 62 ∨ tkC B n p1 = 61)) : aCmp B n sum p l = .inl (tkF B n p1) := by
  unfold aCmp
  rw [e]
  dsimp only
  rw [if_neg c]
theorem aCmp_l {B : Nat → Int} {n : Nat} {sum : Nat → Nat → RdR} {p l : Nat} {q : Int} (e : sum p l = .inl q) : aCmp B n sum p l = .inl q := by
  unfold aCmp
  rw [e]
section P68
variable {d n K : Nat} {h : IH} {J : Nat → Nat → Int} {B : Nat → Int} {ord : Int}
theorem MdG.map {I' : Nat → Nat → Int} {j : Nat} {x : RdR} (F : Mng → Mng) (a : MdG B n K I' j x) : MdG B n K I' j (rMap F x) := by
  cases x with
  | inl q => exact MdG.bad (a.1 q rfl)
  | inr y =>
    obtain ⟨p', l', f⟩ := y
    obtain ⟨j', c1, c2, c3, c4⟩ := a.2 p' l' f rfl
    subst c2
    exact MdG.fine c1 c3 c4
theorem MdG.le {I' : Nat → Nat → Int} {j j0 : Nat} {x : RdR} (a : MdG B n K I' j x) (hj : j0 ≤ j) : MdG B n K I' j0 x := ⟨a.1, fun p' l' f e => by
  obtain ⟨j', c1, c2, c3, c4⟩ := a.2 p' l' f e
  exact ⟨j', c1, c2, by omega, c4⟩⟩
theorem aLeaf_40 {p l : Nat} (hc : tkC B n p = 40) : aLeaf B n ord p l = .inl (tkF B n p) := by
  unfold aLeaf
  rw [hc]
  by_cases c : 50 ≤ l
  · rw [if_pos c]
  · rw [if_neg c, if_neg (by omega)]
    by_cases c2 : ord = 0
    · rw [if_pos c2, if_neg (by omega)]
    · rw [if_neg c2, if_pos (by rfl)]
theorem aSum_40 {p l : Nat} (hc : tkC B n p = 40) : aSum B n ord 0 p l = .inl (tkF B n p) := by
  have e : aPart B n ord none p l = .inl (tkF B n p) := aLeaf_40 hc
  show rwRows B n opS (rwRows B n opT (aPart B n ord none)) p l = _
  unfold rwRows
  rw [e]
/-- things in a row with one sign between them -/
theorem m_log (s : ShM h 88) (hB : ∀ i, 0 ≤ B i ∧ B i ≤ 255) (hn : n ≤ 400) {c : Int} (h1 : c ≠ 1001) {F : Mng → Mng → Mng} {run : IH → Option IR} {it : Nat → Nat → RdR} (z : MdPr h J B n K ord run it) {L : Nat → IH → Option IR}
    (hst : ∀ (I : Nat → Nat → Int) (j l f : Nat), MdOk B n K I j l → tkC B n (posT B n j) ≠ c → L (f + 1) (st h I J) = some (o0, st h I J))
    (hsN : ∀ (I : Nat → Nat → Int) (q : Int) (f : Nat), MdNo B n K I q → L (f + 1) (st h I J) = some (o0, st h I J))
    (hgo : ∀ (I : Nat → Nat → Int) (j l f : Nat), MdOk B n K I j l → tkC B n (posT B n j) = c → L (f + 1) (st h I J) = kV (run (st h (up I 88 19 ((j + 1 : Nat) : Int)) J)) fun g => L f g) {j0 : Nat} : ∀ (k j l fu : Nat) (I : Nat → Nat → Int) (f : Mng), n - posT B n j ≤ k → k + 2 ≤ fu → MdLg ord I → MdOk B n K I j l → l ≤ 50 → j0 ≤ j → ∃ I', MdFr I' I ∧ L fu (st h I J) = some (o0, st h I' J) ∧ MdG B n K I' j0 (rwLog B n c F it k (posT B n j) l f) := by
  intro k
  induction k with
  | zero =>
    intro j l fu I f hk hfu g r hl hj0
    have hp := posT_le (B := B) (n := n) j
    have hpn : ¬ (tkC B n (posT B n j) ≠ 1001) := fun q => by
      have := tkE_lt hp q
      omega
    have hc : tkC B n (posT B n j) = 1001 := Decidable.not_not.mp hpn
    obtain ⟨fu, rfl⟩ : ∃ q, fu = q + 1 := ⟨fu - 1, by omega⟩
    exact ⟨I, MdFr.rf I, hst I j l fu r (by rw [hc]; exact fun q => h1 q.symm), MdG.fine r hj0 hl⟩
  | succ k ih =>
    intro j l fu I f hk hfu g r hl hj0
    have hp := posT_le (B := B) (n := n) j
    obtain ⟨fu, rfl⟩ : ∃ q, fu = q + 1 := ⟨fu - 1, by omega⟩
    by_cases cc : tkC B n (posT B n j) = c
    · have hc : tkC B n (posT B n j) ≠ 1001 := fun q => h1 (cc.symm.trans q)
      have hpe := tkE_lt hp hc
      have hj := r.1.lt r.2.2.1 hc
      have f0 := MdFr.u I ((j + 1 : Nat) : Int) (i := 19) (by omega)
      obtain ⟨I1, b1, b2, b3⟩ := z.1 _ (j + 1) l (g.fr f0) (r.next hj) hl
      have k1 := b1.tr f0
      have e : rwLog B n c F it (k + 1) (posT B n j) l f = (match it (posT B n (j + 1)) l with
        | .inl q => .inl q
        | .inr (p', l', g) => rwLog B n c F it k p' l' (F f g)) := if_pos cc
      rw [hgo I j l fu r cc, b2, kV_o, e]
      cases e1 : it (posT B n (j + 1)) l with
      | inl q =>
        have rq := b3.1 q e1
        obtain ⟨fu, rfl⟩ : ∃ q, fu = q + 1 := ⟨fu - 1, by omega⟩
        exact ⟨I1, k1, hsN I1 q fu rq, MdG.bad rq⟩
      | inr x =>
        obtain ⟨p', l', f'⟩ := x
        obtain ⟨j', c1, c2, c3, c4⟩ := b3.2 p' l' f' e1
        subst c2
        have hmono : posT B n (j + 1) ≤ posT B n j' := by
          have := posT_mono (B := B) (n := n) (i := j + 1) (j' - (j + 1))
          rwa [show j + 1 + (j' - (j + 1)) = j' by omega] at this
        have he : posT B n (j + 1) = tkE B n (posT B n j) := rfl
        obtain ⟨I2, d1, d2, d3⟩ := ih j' l' fu I1 (F f f') (by omega) (by omega) (g.fr k1) c1 c4 (by omega)
        exact ⟨I2, d1.tr k1, d2, d3⟩
    · have e : rwLog B n c F it (k + 1) (posT B n j) l f = .inr (posT B n j, l, f) := if_neg cc
      rw [e]
      exact ⟨I, MdFr.rf I, hst I j l fu r cc, MdG.fine r hj0 hl⟩
theorem m_logs (s : ShM h 88) (hB : ∀ i, 0 ≤ B i ∧ B i ≤ 255) (hn : n ≤ 400) {c : Int} (h1 : c ≠ 1001) {F : Mng → Mng → Mng} {run top : IH → Option IR} {it : Nat → Nat → RdR} (z : MdPr h J B n K ord run it) {L : Nat → IH → Option IR}
    (hst : ∀ (I : Nat → Nat → Int) (j l f : Nat), MdOk B n K I j l → tkC B n (posT B n j) ≠ c → L (f + 1) (st h I J) = some (o0, st h I J))
    (hsN : ∀ (I : Nat → Nat → Int) (q : Int) (f : Nat), MdNo B n K I q → L (f + 1) (st h I J) = some (o0, st h I J))
    (hgo : ∀ (I : Nat → Nat → Int) (j l f : Nat), MdOk B n K I j l → tkC B n (posT B n j) = c → L (f + 1) (st h I J) = kV (run (st h (up I 88 19 ((j + 1 : Nat) : Int)) J)) fun g => L f g)
    (htop : ∀ I, top (st h I J) = kV (run (st h I J)) fun g => L 999999 g) : MdPr h J B n K ord top (rwLogs B n c F it) := by
  refine ⟨fun I j l g r hl => ?_, fun I q r => ?_⟩
  · obtain ⟨I1, a1, a2, a3⟩ := z.1 I j l g r hl
    rw [htop, a2, kV_o]
    unfold rwLogs
    cases e : it (posT B n j) l with
    | inl q =>
      have rq := a3.1 q e
      exact ⟨I1, a1, hsN I1 q 999998 rq, MdG.bad rq⟩
    | inr x =>
      obtain ⟨p', l', f⟩ := x
      obtain ⟨j', c1, c2, c3, c4⟩ := a3.2 p' l' f e
      subst c2
      obtain ⟨I2, d1, d2, d3⟩ := m_log s hB hn h1 (F := F) z hst hsN hgo (j0 := j) (n - posT B n j') j' l' 999999 I1 f (Nat.le_refl _) (by omega) (g.fr a1) c1 c4 c3
      exact ⟨I2, d1.tr a1, d2, d3⟩
  · obtain ⟨I1, a1, a2, a3⟩ := z.2 I q r
    refine ⟨I1, a1, ?_, a3⟩
    rw [htop, a2, kV_o]
    exact hsN I1 q 999998 a3
theorem m_both (s : ShM h 88) (hB : ∀ i, 0 ≤ B i ∧ B i ≤ 255) (hn : n ≤ 400) {br : Int} {it : Nat → Nat → RdR} (z : MdPr h J B n K ord (fun g => rn (d + 4) 196 [iR (some 88), iI br] g) it) : MdPr h J B n K ord (fun g => rn (d + 5) 195 [iR (some 88), iI br] g) (rwLogs B n 281 conF it) := by
  refine m_logs s hB hn (c := 281) (by decide) z (L := fun f g => lp (d + 4) 195 f 5 [some (iR (some 88)), some (iI br)] [] g) (fun I j l f r ho => ?_) (fun I q f r => ?_) (fun I j l f r ho => ?_) (fun I => ?_)
  · show lp (d + 4) 195 (f + 1) 5 [some (iR (some 88)), some (iI br)] [] (st h I J) = _
    rw [e_M_readBoth_5, yck (bT_88 s), s_takes s hn r, if_neg (fun q => ho ((tr_p hB (m := 6) (t := 281) (by simp [trPs])).mp q)), kI_o, if_pos rfl]
  · show lp (d + 4) 195 (f + 1) 5 [some (iR (some 88)), some (iI br)] [] (st h I J) = _
    rw [e_M_readBoth_5, yck (bT_88 s), s_takesN s r, kI_o, if_pos rfl]
  · show lp (d + 4) 195 (f + 1) 5 [some (iR (some 88)), some (iI br)] [] (st h I J) = _
    rw [e_M_readBoth_5, yck (bT_88 s), s_takes s hn r, if_pos ((tr_p hB (m := 6) (t := 281) (by simp [trPs])).mpr ho), kI_o, if_neg (by decide), yck (bT_88 s)]
  · show rn (d + 5) 195 [iR (some 88), iI br] (st h I J) = _
    rw [r_M_readBoth, e_M_readBoth, yck (bT_88 s)]
theorem m_test (s : ShM h 88) (hB : ∀ i, 0 ≤ B i ∧ B i ≤ 255) (hn : n ≤ 400) {br : Int} {it : Nat → Nat → RdR} (z : MdPr h J B n K ord (fun g => rn (d + 5) 195 [iR (some 88), iI br] g) it) : MdPr h J B n K ord (fun g => rn (d + 6) 194 [iR (some 88), iI br] g) (rwLogs B n 280 disF it) := by
  refine m_logs s hB hn (c := 280) (by decide) z (L := fun f g => lp (d + 5) 194 f 5 [some (iR (some 88)), some (iI br)] [] g) (fun I j l f r ho => ?_) (fun I q f r => ?_) (fun I j l f r ho => ?_) (fun I => ?_)
  · show lp (d + 5) 194 (f + 1) 5 [some (iR (some 88)), some (iI br)] [] (st h I J) = _
    rw [e_M_readTest_5, yck (bT_88 s), s_takes s hn r, if_neg (fun q => ho ((tr_p hB (m := 5) (t := 280) (by simp [trPs])).mp q)), kI_o, if_pos rfl]
  · show lp (d + 5) 194 (f + 1) 5 [some (iR (some 88)), some (iI br)] [] (st h I J) = _
    rw [e_M_readTest_5, yck (bT_88 s), s_takesN s r, kI_o, if_pos rfl]
  · show lp (d + 5) 194 (f + 1) 5 [some (iR (some 88)), some (iI br)] [] (st h I J) = _
    rw [e_M_readTest_5, yck (bT_88 s), s_takes s hn r, if_pos ((tr_p hB (m := 5) (t := 280) (by simp [trPs])).mpr ho), kI_o, if_neg (by decide), yck (bT_88 s)]
  · show rn (d + 6) 194 [iR (some 88), iI br] (st h I J) = _
    rw [r_M_readTest, e_M_readTest, yck (bT_88 s)]
/-- a row of "not" -/
theorem l_notM (s : ShM h 88) (hB : ∀ i, 0 ≤ B i ∧ B i ≤ 255) (hn : n ≤ 400) {br : Int} : ∀ (k j l fu : Nat) (t : Bool) (I : Nat → Nat → Int), n - posT B n j ≤ k → k + 1 ≤ fu → MdOk B n K I j l → ∃ (fu' j' : Nat) (I' : Nat → Nat → Int), fu ≤ fu' + k + 1 ∧ MdFr I' I ∧ MdOk B n K I' j' l ∧ j ≤ j' ∧ posT B n j' = (aNot B n k (posT B n j) t).1 ∧ lp (d + 3) 196 fu 2 [some (iR (some 88)), some (iI br), some (iI 1), none] [] (st h I J) = lp (d + 3) 196 fu' 2 [some (iR (some 88)), some (iI br), some (iI 0), none] [] (st h I' J) := by
  intro k
  induction k with
  | zero =>
    intro j l fu t I hk hfu r
    have hp := posT_le (B := B) (n := n) j
    have hpn : ¬ (tkC B n (posT B n j) ≠ 1001) := fun q => by
      have := tkE_lt hp q
      omega
    have hc : tkC B n (posT B n j) = 1001 := Decidable.not_not.mp hpn
    obtain ⟨fu, rfl⟩ : ∃ q, fu = q + 1 := ⟨fu - 1, by omega⟩
    refine ⟨fu, j, I, by omega, MdFr.rf I, r, Nat.le_refl _, rfl, ?_⟩
    rw [e_M_readPlain_2, if_neg (by decide), yck (bT_88 s), s_takes s hn r, if_neg (fun q => by have := (tr_p hB (m := 7) (t := 282) (by simp [trPs])).mp q; omega), kI_o]
  | succ k ih =>
    intro j l fu t I hk hfu r
    have hp := posT_le (B := B) (n := n) j
    obtain ⟨fu, rfl⟩ : ∃ q, fu = q + 1 := ⟨fu - 1, by omega⟩
    by_cases c : tkC B n (posT B n j) = 282
    · have hc : tkC B n (posT B n j) ≠ 1001 := by omega
      have hpe := tkE_lt hp hc
      have hj := r.1.lt r.2.2.1 hc
      have he : posT B n (j + 1) = tkE B n (posT B n j) := rfl
      obtain ⟨fu', j', I', a1, a2, a3, a4, a5, a6⟩ := ih (j + 1) l fu (!t) _ (by omega) (by omega) (r.next hj)
      refine ⟨fu', j', I', by omega, a2.tr (MdFr.u I _ (by omega)), a3, by omega, ?_, ?_⟩
      · rw [a5, he, show aNot B n (k + 1) (posT B n j) t = aNot B n k (tkE B n (posT B n j)) (!t) from if_pos c]
      · rw [e_M_readPlain_2, if_neg (by decide), yck (bT_88 s), s_takes s hn r, if_pos ((tr_p hB (m := 7) (t := 282) (by simp [trPs])).mpr c), kI_o]
        exact a6
    · refine ⟨fu, j, I, by omega, MdFr.rf I, r, Nat.le_refl _, ?_, ?_⟩
      · rw [show aNot B n (k + 1) (posT B n j) t = (posT B n j, t) from if_neg c]
      · rw [e_M_readPlain_2, if_neg (by decide), yck (bT_88 s), s_takes s hn r, if_neg (fun q => c ((tr_p hB (m := 7) (t := 282) (by simp [trPs])).mp q)), kI_o]
/-- behind the first SUM of a comparing -/
noncomputable def cmpM (d : Nat) (br : Int) (f : Nat) (h26 : IH) : Option IR := kI (rn d 188 [iI 60] h26) fun x28 h27 => xck h27 88 22 <| kI (rn d 185 [iR (some 88), iI x28] h27) fun x30 h29 => (if x30 = 0 then kI (rn d 188 [iI 62] h29) fun x32 h31 => xck h31 88 22 <| kI (rn d 185 [iR (some 88), iI x32] h31) fun x34 h33 => (if x34 = 0 then lp d 196 (f + 1) 120 [some (iR (some 88)), some (iI br), none, none] [iR (some 88)] h33 else xck h33 88 22 <| kV (rn d 197 [iR (some 88), iI br] h33) fun h35 => some (o0, h35)) else xck h29 88 22 <| kV (rn d 197 [iR (some 88), iI br] h29) fun h36 => some (o0, h36))
theorem m_cmpN (s : ShM h 88) {br : Int} {sum : Nat → Nat → RdR} (z : MdPr h J B n K ord (fun g => rn (d + 3) 197 [iR (some 88), iI br] g) sum) (f : Nat) {I : Nat → Nat → Int} {q : Int} (r : MdNo B n K I q) : ∃ I', MdFr I' I ∧ cmpM (d + 3) br f (st h I J) = some (o0, st h I' J) ∧ MdNo B n K I' q := by
  obtain ⟨I1, a1, a2, a3⟩ := z.2 I q r
  have a2 : rn (d + 3) 197 [iR (some 88), iI br] (st h I J) = some (o0, st h I1 J) := a2
  refine ⟨I1, a1, ?_, a3⟩
  unfold cmpM
  rw [s_signM _ (c := 60) (by omega), kI_o, yck (bT_88 s), s_takesN s r, kI_o, if_pos rfl, s_signM _ (c := 62) (by omega), kI_o, yck (bT_88 s), s_takesN s r, kI_o, if_pos rfl, e_M_readPlain_120, s_signM _ (c := 61) (by omega), kI_o, yck (bT_88 s), s_mustN s r, kV_o, yck (bT_88 s), a2, kV_o]
theorem m_cmp (s : ShM h 88) (hB : ∀ i, 0 ≤ B i ∧ B i ≤ 255) (hn : n ≤ 400) {br : Int} {sum : Nat → Nat → RdR} (z : MdPr h J B n K ord (fun g => rn (d + 3) 197 [iR (some 88), iI br] g) sum) (f : Nat) {I : Nat → Nat → Int} {j l : Nat} (g : MdLg ord I) (r : MdOk B n K I j l) (hl : l ≤ 50) : ∃ I', MdFr I' I ∧ (kV (rn (d + 3) 197 [iR (some 88), iI br] (st h I J)) fun g => cmpM (d + 3) br f g) = some (o0, st h I' J) ∧ MdG B n K I' j (aCmp B n sum (posT B n j) l) := by
  obtain ⟨I1, a1, a2, a3⟩ := z.1 I j l g r hl
  have a2 : rn (d + 3) 197 [iR (some 88), iI br] (st h I J) = some (o0, st h I1 J) := a2
  rw [a2, kV_o]
  cases e : sum (posT B n j) l with
  | inl q =>
    obtain ⟨I2, b1, b2, b3⟩ := m_cmpN s z f (a3.1 q e)
    rw [aCmp_l e]
    exact ⟨I2, b1.tr a1, b2, MdG.bad b3⟩
  | inr x =>
    obtain ⟨p1, l1, m⟩ := x
    obtain ⟨j1, c1, c2, c3, c4⟩ := a3.2 p1 l1 m e
    subst c2
    have t60 := tr_sign (n := n) (p := posT B n j1) hB (c := 60) (by omega)
    have t62 := tr_sign (n := n) (p := posT B n j1) hB (c := 62) (by omega)
    have t61 := tr_sign (n := n) (p := posT B n j1) hB (c := 61) (by omega)
    by_cases c : tkC B n (posT B n j1) = 60 ∨ tkC B n (posT B n j1) = 62 ∨ tkC B n (posT B n j1) = 61
    · have hj := c1.1.lt c1.2.2.1 (show tkC B n (posT B n j1) ≠ 1001 by omega)
      have f0 := MdFr.u I1 ((j1 + 1 : Nat) : Int) (i := 19) (by omega)
      obtain ⟨I2, b1, b2, b3⟩ := z.1 _ (j1 + 1) l1 ((g.fr a1).fr f0) (c1.next hj) c4
      have b2 : rn (d + 3) 197 [iR (some 88), iI br] (st h (up I1 88 19 ((j1 + 1 : Nat) : Int)) J) = some (o0, st h I2 J) := b2
      rw [aCmp_r e c]
      refine ⟨I2, (b1.tr f0).tr a1, ?_, (MdG.le b3 (by omega)).map _⟩
      unfold cmpM
      rw [s_signM _ (c := 60) (by omega), kI_o, yck (bT_88 s), s_takes s hn c1]
      by_cases k1 : tkC B n (posT B n j1) = 60
      · rw [if_pos (t60.mpr k1), kI_o, if_neg (by decide), yck (bT_88 s), b2, kV_o]
      · rw [if_neg (fun q => k1 (t60.mp q)), kI_o, if_pos rfl, s_signM _ (c := 62) (by omega), kI_o, yck (bT_88 s), s_takes s hn c1]
        by_cases k2 : tkC B n (posT B n j1) = 62
        · rw [if_pos (t62.mpr k2), kI_o, if_neg (by decide), yck (bT_88 s), b2, kV_o]
        · rw [if_neg (fun q => k2 (t62.mp q)), kI_o, if_pos rfl, e_M_readPlain_120, s_signM _ (c := 61) (by omega), kI_o, yck (bT_88 s), s_must s hn c1, if_pos (t61.mpr (by omega)), kV_o, yck (bT_88 s), b2, kV_o]
    · have f0 := MdFr.u I1 (tkF B n (posT B n j1) : Int) (i := 21) (by omega)
      have rf := faultsO c1
      obtain ⟨I2, b1, b2, b3⟩ := z.2 _ _ rf
      have b2 : rn (d + 3) 197 [iR (some 88), iI br] (st h (up I1 88 21 (tkF B n (posT B n j1))) J) = some (o0, st h I2 J) := b2
      rw [aCmp_f e c]
      refine ⟨I2, (b1.tr f0).tr a1, ?_, MdG.bad b3⟩
      unfold cmpM
      rw [s_signM _ (c := 60) (by omega), kI_o, yck (bT_88 s), s_takes s hn c1, if_neg (fun q => c (Or.inl (t60.mp q))), kI_o, if_pos rfl, s_signM _ (c := 62) (by omega), kI_o, yck (bT_88 s), s_takes s hn c1, if_neg (fun q => c (Or.inr (Or.inl (t62.mp q)))), kI_o, if_pos rfl, e_M_readPlain_120, s_signM _ (c := 61) (by omega), kI_o, yck (bT_88 s), s_must s hn c1, if_neg (fun q => c (Or.inr (Or.inr (t61.mp q)))), kV_o, yck (bT_88 s), b2, kV_o]
theorem m_plainN (s : ShM h 88) {I : Nat → Nat → Int} {q : Int} (r : MdNo B n K I q) (br : Int) : rn (d + 4) 196 [iR (some 88), iI br] (st h I J) = some (o0, st h I J) := by
  rw [r_M_readPlain, e_M_readPlain]
  show lp (d + 3) 196 (999998 + 1) 2 [some (iR (some 88)), some (iI br), some (iI 1), none] [] (st h I J) = _
  rw [e_M_readPlain_2, if_neg (by decide), yck (bT_88 s), s_takesN s r, kI_o]
  show lp (d + 3) 196 (999997 + 1) 2 [some (iR (some 88)), some (iI br), some (iI 0), none] [] (st h I J) = _
  rw [e_M_readPlain_2, if_pos rfl, yck (bT_88 s), s_fine s, kI_o, if_neg (show ¬ I 88 21 = -1 by rw [r.2.1]; exact r.2.2), if_pos rfl]
theorem m_plainH (s : ShM h 88) (hB : ∀ i, 0 ≤ B i ∧ B i ≤ 255) (hn : n ≤ 400) {br : Int} {I : Nat → Nat → Int} {j l : Nat} (r : MdOk B n K I j l) : ∃ (f j' : Nat) (I1 : Nat → Nat → Int), MdFr I1 I ∧ MdOk B n K I1 j' l ∧ j ≤ j' ∧ posT B n j' = (aNot B n (n - posT B n j) (posT B n j) false).1 ∧ rn (d + 4) 196 [iR (some 88), iI br] (st h I J) = lp (d + 3) 196 (f + 2) 2 [some (iR (some 88)), some (iI br), some (iI 0), none] [] (st h I1 J) := by
  obtain ⟨fu, j', I1, a1, a2, a3, a4, a5, a6⟩ := l_notM (d := d) (J := J) s hB hn (br := br) (n - posT B n j) j l 999999 false I (Nat.le_refl _) (by omega) r
  refine ⟨fu - 2, j', I1, a2, a3, a4, a5, ?_⟩
  rw [r_M_readPlain, e_M_readPlain, show fu - 2 + 2 = fu by omega, ← a6]
/-- no bracket -/
theorem l_sumM (s : ShM h 88) (hB : ∀ i, 0 ≤ B i ∧ B i ≤ 255) (hn : n ≤ 400) {br : Int} {I : Nat → Nat → Int} {j l : Nat} (r : MdOk B n K I j l) (f : Nat) (hc : tkC B n (posT B n j) ≠ 40) : lp (d + 3) 196 (f + 2) 2 [some (iR (some 88)), some (iI br), some (iI 0), none] [] (st h I J) = kV (rn (d + 3) 197 [iR (some 88), iI br] (st h I J)) fun g => cmpM (d + 3) br f g := by
  obtain ⟨r0, ⟨r1, r2, r3⟩, r4⟩ := id r
  have a := r0.at r4.1
  have k := r0.1.2
  rw [e_M_readPlain_2, if_pos rfl, yck (bT_88 s), s_fine s, kI_o, if_pos r1, if_neg (by decide), ygR (bT_88 s) (bR_15 s), ygI (bT_88 s), r2, xB_s, yaIv (i := j) (x := cdM B n (posT B n j)) (bT_97 s) (bL_97 s) rfl (by omega) a.1, s_signM _ (c := 40) (by omega), kI_o, if_neg (fun q => hc ((tr_sign hB (by omega)).mp q)), yck (bT_88 s)]
  rfl
theorem m_plain0 (s : ShM h 88) (hB : ∀ i, 0 ≤ B i ∧ B i ≤ 255) (hn : n ≤ 400) {sum : Nat → Nat → RdR} (z : MdPr h J B n K ord (fun g => rn (d + 3) 197 [iR (some 88), iI 8] g) sum) (h40 : ∀ p l, tkC B n p = 40 → sum p l = .inl (tkF B n p)) : MdPr h J B n K ord (fun g => rn (d + 4) 196 [iR (some 88), iI 8] g) (aPlain B n none sum) := by
  refine ⟨fun I j l g r hl => ?_, fun I q r => ⟨I, MdFr.rf I, m_plainN s r 8, r⟩⟩
  show ∃ I', MdFr I' I ∧ rn (d + 4) 196 [iR (some 88), iI 8] (st h I J) = some (o0, st h I' J) ∧ MdG B n K I' j (aPlain B n none sum (posT B n j) l)
  obtain ⟨f, j', I1, a1, a2, a3, a4, a5⟩ := m_plainH (d := d) (J := J) s hB hn (br := 8) r
  have ea : aPlain B n none sum (posT B n j) l = rMap (fun f => if (aNot B n (n - posT B n j) (posT B n j) false).2 = true then negF f else f) (aCmp B n sum (posT B n j') l) := by
    unfold aPlain
    rw [← a4, aNegR_map]
  rw [ea, a5]
  by_cases c : tkC B n (posT B n j') = 40
  · obtain ⟨r0, ⟨r1, r2, r3⟩, r4⟩ := id a2
    have a := r0.at r4.1
    have k := r0.1.2
    have rf := faultsO a2
    rw [aCmp_l (h40 _ l c), e_M_readPlain_2, if_pos rfl, yck (bT_88 s), s_fine s, kI_o, if_pos r1, if_neg (by decide), ygR (bT_88 s) (bR_15 s), ygI (bT_88 s), r2, xB_s, yaIv (i := j') (x := cdM B n (posT B n j')) (bT_97 s) (bL_97 s) rfl (by omega) a.1, s_signM _ (c := 40) (by omega), kI_o, if_pos ((tr_sign hB (by omega)).mpr c), if_pos rfl, yck (bT_88 s), s_faultsO s hn a2, kV_o, yck (bT_88 s), s_fine s, kI_o, if_neg (show ¬ up I1 88 21 (tkF B n (posT B n j')) 88 21 = -1 by rw [rf.2.1]; exact rf.2.2), if_pos rfl]
    exact ⟨_, (MdFr.u I1 _ (by omega)).tr a1, rfl, MdG.bad rf⟩
  · obtain ⟨I2, b1, b2, b3⟩ := m_cmp s hB hn z f (g.fr a1) a2 hl
    rw [l_sumM s hB hn a2 f c, b2]
    exact ⟨I2, b1.tr a1, rfl, (MdG.le b3 a3).map _⟩
theorem m_plain1 (s : ShM h 88) (hB : ∀ i, 0 ≤ B i ∧ B i ≤ 255) (hn : n ≤ 400) {br : Nat} (hbr : br < 8) {sum tst : Nat → Nat → RdR} (z : MdPr h J B n K ord (fun g => rn (d + 3) 197 [iR (some 88), iI (br : Int)] g) sum) (zt : MdPr h J B n K ord (fun g => rn (d + 3) 194 [iR (some 88), iI ((br + 1 : Nat) : Int)] g) tst) : MdPr h J B n K ord (fun g => rn (d + 4) 196 [iR (some 88), iI (br : Int)] g) (aPlain B n (some tst) sum) := by
  refine ⟨fun I j l g r hl => ?_, fun I q r => ⟨I, MdFr.rf I, m_plainN s r br, r⟩⟩
  show ∃ I', MdFr I' I ∧ rn (d + 4) 196 [iR (some 88), iI (br : Int)] (st h I J) = some (o0, st h I' J) ∧ MdG B n K I' j (aPlain B n (some tst) sum (posT B n j) l)
  obtain ⟨f, j', I1, a1, a2, a3, a4, a5⟩ := m_plainH (d := d) (J := J) s hB hn (br := (br : Int)) r
  have ea : aPlain B n (some tst) sum (posT B n j) l = rMap (fun f => if (aNot B n (n - posT B n j) (posT B n j) false).2 = true then negF f else f) (if tkC B n (posT B n j') = 40 then aClose B n 41 (tst (posT B n (j' + 1)) l) else aCmp B n sum (posT B n j') l) := by
    unfold aPlain
    rw [← a4, aNegR_map]
    rfl
  rw [ea, a5]
  by_cases c : tkC B n (posT B n j') = 40
  · obtain ⟨r0, ⟨r1, r2, r3⟩, r4⟩ := id a2
    have a := r0.at r4.1
    have k := r0.1.2
    have hj := r0.lt r4.1 (show tkC B n (posT B n j') ≠ 1001 by omega)
    have hw2 : wr ((j' : Int) + 1) = ((j' + 1 : Nat) : Int) := by rw [wr_id (by omega) (by omega)]; rfl
    have hw3 : wr ((br : Int) + 1) = ((br + 1 : Nat) : Int) := by rw [wr_id (by omega) (by omega)]; rfl
    have f0 := MdFr.u I1 ((j' + 1 : Nat) : Int) (i := 19) (by omega)
    obtain ⟨I2, b1, b2, b3⟩ := zt.1 _ (j' + 1) l ((g.fr a1).fr f0) (a2.next hj) hl
    have b2 : rn (d + 3) 194 [iR (some 88), iI ((br + 1 : Nat) : Int)] (st h (up I1 88 19 ((j' + 1 : Nat) : Int)) J) = some (o0, st h I2 J) := b2
    have k1 := (b1.tr f0).tr a1
    rw [if_pos c, e_M_readPlain_2, if_pos rfl, yck (bT_88 s), s_fine s, kI_o, if_pos r1, if_neg (by decide), ygR (bT_88 s) (bR_15 s), ygI (bT_88 s), r2, xB_s, yaIv (i := j') (x := cdM B n (posT B n j')) (bT_97 s) (bL_97 s) rfl (by omega) a.1, s_signM _ (c := 40) (by omega), kI_o, if_pos ((tr_sign hB (by omega)).mpr c), if_neg (by omega), yck (bT_88 s), s_fine s, kI_o, if_pos r1, if_neg (by decide), ygI (bT_88 s), r2, ypI (bT_88 s) (by omega), yck (bT_88 s), hw2, hw3, b2, kV_o, s_signM _ (c := 41) (by omega), kI_o, yck (bT_88 s)]
    cases e : tst (posT B n (j' + 1)) l with
    | inl q =>
      have rq := b3.1 q e
      rw [s_mustN s rq, kV_o]
      exact ⟨I2, k1, rfl, MdG.bad rq⟩
    | inr x =>
      obtain ⟨p', l', f⟩ := x
      obtain ⟨j2, c1, c2, c3, c4⟩ := b3.2 p' l' f e
      subst c2
      rw [s_must s hn c1, kV_o]
      by_cases c5 : tkC B n (posT B n j2) = 41
      · have hj' := c1.1.lt c1.2.2.1 (show tkC B n (posT B n j2) ≠ 1001 by omega)
        have e2 : aClose B n 41 (.inr (posT B n j2, l', f)) = .inr (posT B n (j2 + 1), l', f) := if_pos c5
        rw [if_pos ((tr_sign hB (by omega)).mpr c5), e2]
        exact ⟨_, (MdFr.u I2 _ (by omega)).tr k1, rfl, (MdG.fine (c1.next hj') (by omega) c4).map _⟩
      · have e2 : aClose B n 41 (.inr (posT B n j2, l', f)) = .inl (tkF B n (posT B n j2)) := if_neg c5
        rw [if_neg (fun z => c5 ((tr_sign hB (by omega)).mp z)), e2]
        exact ⟨_, (MdFr.u I2 _ (by omega)).tr k1, rfl, MdG.bad (faultsO c1)⟩
  · obtain ⟨I2, b1, b2, b3⟩ := m_cmp s hB hn z f (g.fr a1) a2 hl
    rw [if_neg c, l_sumM s hB hn a2 f c, b2]
    exact ⟨I2, b1.tr a1, rfl, (MdG.le b3 a3).map _⟩
/-- a TEST with r brackets to spare, the reference: as the class -/
theorem m_testR (s : ShM h 88) (hB : ∀ i, 0 ≤ B i ∧ B i ≤ 255) (hn : n ≤ 400) : ∀ r : Nat, r ≤ 8 → MdPr h J B n K ord (fun g => rn (d + 3 * r + 9) 194 [iR (some 88), iI ((8 - r : Nat) : Int)] g) (aTest B n ord r) := by
  intro r
  induction r with
  | zero =>
    intro _
    have z := m_sumR (d := d) (J := J) (K := K) (ord := ord) s hB hn 0 (by omega)
    exact m_test (d := d + 3) s hB hn (m_both (d := d + 3) s hB hn (m_plain0 (d := d + 3) s hB hn z fun p l hc => aSum_40 hc))
  | succ r ih =>
    intro hr
    have zt := ih (by omega)
    have z := m_sumR (d := d) (J := J) (K := K) (ord := ord) s hB hn (r + 1) hr
    have e : 8 - r = (8 - (r + 1)) + 1 := by omega
    rw [e] at zt
    exact m_test (d := d + 3 * r + 6) s hB hn (m_both (d := d + 3 * r + 6) s hB hn (m_plain1 (d := d + 3 * r + 6) s hB hn (br := 8 - (r + 1)) (by omega) z zt))
end P68
