/-! A LAND and the reference's row: what both tell is the same (by program, wip/whole/gen80.py) -/
section P80a
variable {B : Nat → Int} {n : Nat}
theorem aClause_bars {p l p' l' : Nat} {cl : Cls} (h : aClause B n 0 p l = .inr (p', l', cl)) : cl.1 = 6 → cl.2.2 0 = none := by
  unfold aClause at h
  cases e1 : aHead B n 0 p l with
  | inl q =>
    rw [e1] at h
    cases h
  | inr x =>
    obtain ⟨p1, l1, k, P⟩ := x
    rw [e1] at h
    have e2 : aOft B n 0 p1 = .inr (p1, 1) := rfl
    try dsimp only at h
    rw [e2] at h
    try dsimp only at h
    have hk : k = 6 → P 0 = none := by
      intro hk
      unfold aHead at e1
      rw [if_pos rfl] at e1
      unfold aRule at e1
      have no : ∀ kd x, kd ≠ 6 → aHd kd x = .inr (p1, l1, k, P) → False := fun kd x hkd e => by
        cases x with
        | inl q => cases e
        | inr y => cases e; exact hkd hk
      by_cases c1 : tkC B n p = 269
      · rw [if_pos c1] at e1
        exact (no 4 _ (by decide) e1).elim
      rw [if_neg c1] at e1
      by_cases c2 : tkC B n p = 270
      · rw [if_pos c2] at e1
        exact (no 5 _ (by decide) e1).elim
      rw [if_neg c2] at e1
      by_cases c3 : tkC B n p = 271
      · rw [if_pos c3] at e1
        cases e1
        rfl
      · rw [if_neg c3] at e1
        cases e1
    cases e3 : aIf B n 0 p1 l1 P with
    | inl q =>
      rw [e3] at h
      cases h
    | inr x =>
      obtain ⟨p3, l3, P3⟩ := x
      rw [e3] at h
      cases h
      intro z
      have z2 := hk z
      unfold aIf at e3
      by_cases c : tkC B n p1 = 279
      · rw [if_pos c] at e3
        cases e4 : aTest B n 0 8 (tkE B n p1) l1 with
        | inl q =>
          rw [e4] at e3
          cases e3
        | inr x =>
          rw [e4] at e3
          cases e3
          exact z2
      · rw [if_neg c] at e3
        cases e3
        exact z2
theorem aTextL_bars : ∀ (k c p l cc : Nat) (CL0 CL : Nat → Cls), (∀ i, i < c → (CL0 i).1 = 6 → (CL0 i).2.2 0 = none) → aTextL B n 0 k c p l CL0 = .inr (cc, CL) → ∀ i, i < cc → (CL i).1 = 6 → (CL i).2.2 0 = none := by
  intro k
  induction k with
  | zero =>
    intro c p l cc CL0 CL h0 h
    have h2 : (Sum.inr (c, CL0) : Sum Int (Nat × (Nat → Cls))) = .inr (cc, CL) := h
    cases h2
    exact h0
  | succ k ih =>
    intro c p l cc CL0 CL h0 h
    unfold aTextL at h
    by_cases c1 : tkC B n p = 59
    · rw [if_pos c1] at h
      by_cases c2 : 12 ≤ c
      · rw [if_pos c2] at h
        cases h
      rw [if_neg c2] at h
      cases e1 : aClause B n 0 (tkE B n p) l with
      | inl q =>
        rw [e1] at h
        cases h
      | inr x =>
        obtain ⟨p1, l1, cl⟩ := x
        rw [e1] at h
        refine ih (c + 1) p1 l1 cc _ CL (fun i hi => ?_) h
        by_cases z : i = c
        · rw [if_pos z]
          exact aClause_bars e1
        · rw [if_neg z]
          exact h0 i (by omega)
    · rw [if_neg c1] at h
      by_cases c2 : tkC B n p = 1001
      · rw [if_pos c2] at h
        cases h
        exact h0
      · rw [if_neg c2] at h
        cases h
theorem aText_bars {cc : Nat} {CL : Nat → Cls} (h : aText B n 0 = .inr (cc, CL)) : ∀ i, i < cc → (CL i).1 = 6 → (CL i).2.2 0 = none := by
  unfold aText at h
  cases e1 : aClause B n 0 0 0 with
  | inl q =>
    rw [e1] at h
    cases h
  | inr x =>
    obtain ⟨p1, l1, cl⟩ := x
    rw [e1] at h
    exact aTextL_bars _ 1 _ _ cc _ CL (fun i _ => aClause_bars e1) h
end P80a
/-- the class's TEXT x means CL -/
def TxM (h : IH) (I : Nat → Nat → Int) (x cc : Nat) (CL : Nat → Cls) : Prop := TxOk h I x cc ∧ ∀ i, i < cc → I (x + 3) i = (CL i).1 ∧ ∀ q, q < 4 → ∀ ws, wsOk ws 9 → plV I x ws 9 (4 * i + q) = valP (CL i).2.2 q ws
theorem TxM.fr {h : IH} {I I' : Nat → Nat → Int} {x cc : Nat} {CL : Nat → Cls} (hf : ∀ b, x ≤ b → b ≤ x + 6 → I' b = I b) (hx : TxM h I x cc CL) : TxM h I' x cc CL :=
  ⟨hx.1.fr hf, fun i hi => ⟨by rw [hf (x + 3) (by omega) (by omega)]; exact (hx.2 i hi).1, fun q hq ws hw => by rw [plV_fr hf]; exact (hx.2 i hi).2 q hq ws hw⟩⟩
theorem TxM.last {h : IH} {I : Nat → Nat → Int} {x cc : Nat} {CL : Nat → Cls} (hx : TxM h I x cc CL) {ws : Nat → Int} (hw : wsOk ws 9) (kind : Int) : ∀ c, c ≤ cc → lastT I x ws kind c = lastC CL ws kind c
  | 0, _ => rfl
  | c + 1, hc => by
    have h1 := (hx.2 c (by omega)).1
    have h2 := (hx.2 c (by omega)).2 3 (by omega) ws hw
    have h3 := (hx.2 c (by omega)).2 0 (by omega) ws hw
    rw [show 4 * c + 0 = 4 * c from rfl] at h3
    unfold lastT
    rw [h1, h2, h3, TxM.last hx hw kind c (by omega)]
    by_cases q : hldC (CL c) kind ws
    · rw [lastC_y q, if_pos q]
    · rw [lastC_n q]
      exact if_neg q
/-- the LAND a is as the reference's row K; LW: what its laws mean -/
def RL (h : IH) (I : Nat → Nat → Int) (a : Nat) (K : Nat → Int) (LW : Nat → Nat × (Nat → Cls)) : Prop :=
  I a 0 = K 183 ∧ (∀ t : Nat, t < 7 → I (a + 1) t = (if (t : Int) < K 183 then K t else t) ∧ I (a + 2) t = (if (t : Int) < K 183 then atK K t else t)) ∧
  ((∀ s, s < 7 → I (a + 3) s = K (7 + s) ∧ I (a + 4) s = K (113 + s)) ∧ (∀ i, i < 49 → I (a + 5) i = K (14 + i) ∧ I (a + 6) i = K (120 + i)) ∧ ∀ x y : Nat, x < 7 → y < 7 → iand (ishr (I (a + 7) x) y) 1 = K (63 + (7 * x + y))) ∧
  (I (a + 8) 0 = K 112 ∧ I (a + 8) 1 = K 181 ∧ I (a + 8) 2 = K 182) ∧ (I a 11 = K 184 ∧ ∀ i, i < 6 → I (a + 9) i = K (169 + 2 * i) ∧ I (a + 10) i = K (170 + 2 * i)) ∧
  (I a 13 = K 185 ∧ I a 14 = K 186 ∧ ∀ j : Nat, (j : Int) < K 185 → ∃ x, hR h (a + 11) j = some x ∧ 118 ≤ x ∧ TxM h I x (LW j).1 (LW j).2) ∧
  ((∀ b, a ≤ b → b ≤ a + 11 → ∀ k, inr (I b k)) ∧ (∀ k, 0 ≤ I (a + 3) k ∧ I (a + 3) k ≤ 9) ∧ (∀ k, 0 ≤ I (a + 5) k ∧ I (a + 5) k ≤ 99) ∧ ∀ x : Nat, 0 ≤ I (a + 7) x ∧ I (a + 7) x < 128)
/-- the laws of the reference's row mean LW -/
def LwA (K : Nat → Int) (LW : Nat → Nat × (Nat → Cls)) : Prop := ∀ j : Nat, (j : Int) < K 185 → LwM K j (LW j).1 (LW j).2
def lvOf (K : Nat → Int) (LW : Nat → Nat × (Nat → Cls)) : LwV := if K 186 = -1 then none else some (LW (K 186).toNat)
theorem lvOf_ok {K : Nat → Int} {LW : Nat → Nat × (Nat → Cls)} (k : KOk K) (h : LwA K LW) : LwR K (lvOf K LW) := by
  have h1 := k.2.2.2.2.2.1
  have h2 := k.2.2.2.2.2.2
  unfold lvOf
  by_cases c : K 186 = -1
  · rw [if_pos c]
    exact Or.inl ⟨c, rfl⟩
  · rw [if_neg c]
    exact Or.inr ⟨(K 186).toNat, _, _, by omega, by omega, rfl, h _ (by omega)⟩
section P80
variable {h : IH} {I : Nat → Nat → Int} {a : Nat} {K : Nat → Int} {LW : Nat → Nat × (Nat → Cls)}
theorem clmp_n (top x : Int) (ht : 0 ≤ top) : clmp top x = imax 0 (imin x top) := by
  unfold clmp imax imin
  (repeat' split) <;> omega
theorem RL.at (r : RL h I a K LW) {s : Int} (hs : 0 ≤ s ∧ s < 7) (hs2 : s < K 183) : I (a + 2) s.toNat = atK K s := by
  rw [(r.2.1 s.toNat (by omega)).2, if_pos (by omega), show ((s.toNat : Nat) : Int) = s by omega]
theorem RL.words (r : RL h I a K LW) (k : KOk K) {t s p : Int} (ht : 0 ≤ t ∧ t < 7) (hs : 0 ≤ s ∧ s < 7) (hp : 0 ≤ p ∧ p < 7) : ∀ j, j < 9 → wordsOf I a t s p j = wordsK K t s (milesK K p t) j := by
  intro j hj
  have h1 := r.2.2.1.1 s.toNat (by omega)
  have h2 := (r.2.2.1.2.1 (7 * t + s).toNat (by omega)).1
  have h3 := (r.2.2.1.2.1 (7 * p + t).toNat (by omega)).2
  rcases (show j = 0 ∨ j = 1 ∨ j = 2 ∨ j = 3 ∨ j = 4 ∨ j = 5 ∨ j = 6 ∨ j = 7 ∨ j = 8 by omega) with rfl | rfl | rfl | rfl | rfl | rfl | rfl | rfl | rfl
  · rfl
  · rfl
  · exact h1.1
  · exact h1.2
  · rfl
  · show I (a + 5) (t * 7 + s).toNat = K (14 + (7 * t + s).toNat)
    rw [← h2, show t * 7 + s = 7 * t + s by omega]
  · show I (a + 6) (p * 7 + t).toNat = K (120 + (7 * p + t).toNat)
    rw [← h3, show p * 7 + t = 7 * p + t by omega]
  · exact r.2.2.2.1.1
  · exact r.2.2.2.1.2.2
theorem RL.lawV (r : RL h I a K LW) (k : KOk K) {t s p : Int} (ht : 0 ≤ t ∧ t < 7) (hs : 0 ≤ s ∧ s < 7) (hp : 0 ≤ p ∧ p < 7) (kind : Int) {x : Nat} {cc : Nat} {CL : Nat → Cls} (hx : TxM h I x cc CL) : lawA I a x kind t s p = lastC CL (wordsK K t s (milesK K p t)) kind cc := by
  have hc : (I x 7).toNat = cc := by
    obtain ⟨n1, nc, m, a1, a2, a3, a4, a5, a6⟩ := hx.1
    rw [a4.2.1]
    omega
  have hw : wsOk (wordsK K t s (milesK K p t)) 9 := fun j _ => bdd_nb (wordsK_bd k ht hs (milesK_in k hp ht) j)
  unfold lawA lawT
  rw [hc, lastT_ws (r.words k ht hs hp), hx.last hw kind cc (Nat.le_refl _)]
theorem RL.law (r : RL h I a K LW) (k : KOk K) : (K 186 = -1 ∧ lawOf h I a = none ∧ lvOf K LW = none) ∨ ∃ x, lawOf h I a = some x ∧ 118 ≤ x ∧ TxM h I x (LW (K 186).toNat).1 (LW (K 186).toNat).2 ∧ lvOf K LW = some (LW (K 186).toNat) := by
  have h1 := k.2.2.2.2.2.2
  obtain ⟨r1, r2, r3⟩ := r.2.2.2.2.2.1
  unfold lawOf lvOf
  rw [r1, r2]
  by_cases c : K 186 = -1
  · rw [if_pos c, if_neg (by omega)]
    exact Or.inl ⟨c, rfl, rfl⟩
  · rw [if_neg c, if_pos (by omega)]
    obtain ⟨x, x1, x2, x3⟩ := r3 (K 186).toNat (by omega)
    exact Or.inr ⟨x, x1, x2, x3, rfl⟩
theorem RL.like (r : RL h I a K LW) (k : KOk K) {t s : Int} (ht : 0 ≤ t ∧ t < 7) (hs : 0 ≤ s ∧ s < K 183) : likeV I a (lawOf h I a) t s = likeK K (lvOf K LW) t s := by
  have hn := k.1
  have hb := (r.2.2.1.1 s.toNat (by omega)).1
  have ha := atK_ok k hs
  have hat := r.at (s := s) (by omega) hs.2
  rcases r.law k with ⟨q1, q2, q3⟩ | ⟨x, q1, q2, q3, q4⟩
  · rw [q2, q3]
    exact hb
  · rw [q1, q4]
    have e := r.lawV k (p := atK K s) ht (s := s) (by omega) (by omega) 4 q3
    show (if lawA I a x 4 t s (I (a + 2) s.toNat) = BRK then I (a + 3) s.toNat else imax 0 (imin (lawA I a x 4 t s (I (a + 2) s.toNat)) 99)) = toldC (LW (K 186).toNat).2 (wordsK K t s (milesK K (atK K s) t)) 4 99 (K (7 + s.toNat)) (LW (K 186).toNat).1
    rw [hat, e, hb, toldC_last, clmp_n _ _ (by omega)]
theorem RL.alt (r : RL h I a K LW) (k : KOk K) {s : Int} (hs : 0 ≤ s ∧ s < K 183) : altV I a (lawOf h I a) s = altK K (lvOf K LW) (atK K s) s := by
  have hn := k.1
  have hb := (r.2.2.1.1 s.toNat (by omega)).1
  have ha := atK_ok k hs
  have hat := r.at (s := s) (by omega) hs.2
  rcases r.law k with ⟨q1, q2, q3⟩ | ⟨x, q1, q2, q3, q4⟩
  · rw [q2, q3]
    exact hb
  · rw [q1, q4]
    have e := r.lawV k (t := atK K s) (p := atK K s) (s := s) (by omega) (by omega) (by omega) 5 q3
    have em : milesK K (atK K s) (atK K s) = 0 := by
      unfold milesK
      rw [show 120 + (7 * atK K s + atK K s).toNat = 120 + 8 * (atK K s).toNat by omega]
      exact k.2.2.1.2.2.2 _ (by omega)
    rw [em] at e
    show (if lawA I a x 5 (I (a + 2) s.toNat) s (I (a + 2) s.toNat) = BRK then I (a + 3) s.toNat else imax 0 (imin (lawA I a x 5 (I (a + 2) s.toNat) s (I (a + 2) s.toNat)) 9)) = toldC (LW (K 186).toNat).2 (wordsK K (atK K s) s 0) 5 9 (K (7 + s.toNat)) (LW (K 186).toNat).1
    rw [hat, e, hb, toldC_last, clmp_n _ _ (by omega)]
theorem bars_1 {CL : Nat → Cls} {ws : Nat → Int} : ∀ {c : Nat}, (∀ i, i < c → (CL i).1 = 6 → (CL i).2.2 0 = none) → lastC CL ws 6 c = BRK ∨ lastC CL ws 6 c = 1
  | 0, _ => Or.inl rfl
  | c + 1, e => by
    by_cases q : hldC (CL c) 6 ws
    · rw [lastC_y q]
      refine Or.inr ?_
      unfold valP
      rw [e c (by omega) q.1.1]
    · rw [lastC_n q]
      exact bars_1 fun i hi => e i (by omega)
theorem RL.send (r : RL h I a K LW) (k : KOk K) (hA : LwA K LW) {s p t : Int} (hs : 0 ≤ s ∧ s < 7) (hp : 0 ≤ p ∧ p < 7) (ht : 0 ≤ t ∧ t < 7) : sendV I a (lawOf h I a) s p t = sendK K (lvOf K LW) s p t := by
  have h3 := (r.2.2.1.2.1 (7 * p + t).toNat (by omega)).2
  have h3b := (k.2.2.1.2.1 (7 * p + t).toNat (by omega)).2
  have h4 := r.2.2.1.2.2 p.toNat t.toNat (by omega) (by omega)
  rw [show ((t.toNat : Nat) : Int) = t by omega, show 63 + (7 * p.toNat + t.toNat) = 63 + (7 * p + t).toNat by omega] at h4
  unfold sendV sendK milesK
  rw [show p * 7 + t = 7 * p + t by omega, h3, h4]
  by_cases c1 : K (120 + (7 * p + t).toNat) = 0
  · rw [if_pos c1, if_neg (fun z => by omega)]
  rw [if_neg c1]
  by_cases c2 : K (63 + (7 * p + t).toNat) = 1
  · rw [if_pos c2, if_neg (fun z => by omega)]
  rw [if_neg c2]
  have c3 : 0 < K (120 + (7 * p + t).toNat) ∧ K (63 + (7 * p + t).toNat) = 0 := by omega
  rcases r.law k with ⟨q1, q2, q3⟩ | ⟨x, q1, q2, q3, q4⟩
  · rw [q2, q3, if_pos ⟨c3, by show (0 : Int) ≠ 1; decide⟩]
    rfl
  · rw [q1, q4]
    have e := r.lawV k ht hs hp 6 q3
    have hf : 0 ≤ K 186 ∧ K 186 < K 185 := by
      have h1 := k.2.2.2.2.2.2
      have : K 186 ≠ -1 := fun z => by
        unfold lvOf at q4
        rw [if_pos z] at q4
        cases q4
      omega
    obtain ⟨B, n, c, _, _, _, hb⟩ := hA (K 186).toNat (by omega)
    have hbars := bars_1 (ws := wordsK K t s (milesK K p t)) (aText_bars hb)
    have eb : barK K (some (LW (K 186).toNat)) t s p = if lastC (LW (K 186).toNat).2 (wordsK K t s (milesK K p t)) 6 (LW (K 186).toNat).1 = BRK then 0 else clmp 1 (lastC (LW (K 186).toNat).2 (wordsK K t s (milesK K p t)) 6 (LW (K 186).toNat).1) := toldC_last _ _ _ _ _ _
    show (if lawA I a x 6 t s p = BRK then 1 else 0) = _
    rw [e, eb]
    rcases hbars with z | z
    · rw [if_pos z, if_pos z, if_pos ⟨c3, by decide⟩]
    · rw [z, if_neg (show ¬ (1 : Int) = BRK by decide)]
      exact (if_neg (fun y => y.2 (by decide))).symm
theorem RL.have_ (r : RL h I a K LW) (k : KOk K) (hA : LwA K LW) {t s : Int} (ht : 0 ≤ t ∧ t < 7) (hs : 0 ≤ s ∧ s < K 183) : haveV I a (lawOf h I a) t s = haveK K (lvOf K LW) t s := by
  have hn := k.1
  have ha := atK_ok k hs
  have hat := r.at (s := s) (by omega) hs.2
  unfold haveV haveK
  rw [hat, r.send k hA (s := s) (p := atK K s) (t := t) (by omega) (by omega) ht]
theorem RL.lj (r : RL h I a K LW) (k : KOk K) (hl : ShLand h a) {j : Nat} (hj : ShJu h j) (hd : a + 11 < j ∨ j + 3 < a) (hj2 : j + 3 < 118) : LJ h I a j := by
  have hn := k.1
  refine ⟨⟨hl, hj⟩, by rw [r.1]; exact hn, by rw [r.2.2.2.2.2.1.1]; exact k.2.2.2.2.2.1.2, ?_, hd, r.2.2.2.2.2.2.1, fun s hs => ?_⟩
  · intro x hx
    rcases r.law k with ⟨q1, q2, q3⟩ | ⟨y, q1, q2, q3, q4⟩
    · rw [q2] at hx
      cases hx
    · rw [q1] at hx
      cases hx
      have hc : (I x 7).toNat = (LW (K 186).toNat).1 := by
        obtain ⟨n1, nc, m, a1, a2, a3, a4, a5, a6⟩ := q3.1
        rw [a4.2.1]
        omega
      rw [hc]
      exact ⟨q3.1, Or.inr (by omega)⟩
  · obtain ⟨e1, e2⟩ := r.2.1 s hs
    rw [e1, e2]
    by_cases c : (s : Int) < K 183
    · have := k.2.1.1 s c
      have := (atK_ok k (s := (s : Int)) (by omega)).1
      rw [if_pos c, if_pos c]
      omega
    · rw [if_neg c, if_neg c]
      omega
theorem RL.pm (r : RL h I a K LW) (k : KOk K) : PmOk I a := by
  have hn := k.1
  intro t ht
  rw [r.1] at ht ⊢
  obtain ⟨e1, e2⟩ := r.2.1 t (by omega)
  have h1 := k.2.1.1 t ht
  have h2 := atK_ok k (s := (t : Int)) (by omega)
  have h3 := r.at (s := K t) (by omega) h1.2
  have h4 := (r.2.1 (atK K t).toNat (by omega)).1
  rw [e1, e2, if_pos ht, if_pos ht, h3, h4, atK_of k ht, if_pos (by omega)]
  exact ⟨h1.2, h2.1.2, rfl, h2.2⟩
end P80
