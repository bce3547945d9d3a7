/-! What is left alone; the Mover's swaps and closings (by program, wip/whole/gen32.py) -/
/-- nothing is changed but rows lo .. hi -/
def Fr (I' I : Nat → Nat → Int) (lo hi : Nat) : Prop := ∀ b, (b < lo ∨ hi < b) → I' b = I b
theorem Fr.rf (I : Nat → Nat → Int) (lo hi : Nat) : Fr I I lo hi := fun _ _ => rfl
theorem Fr.tr {A B C : Nat → Nat → Int} {lo hi : Nat} (h : Fr B A lo hi) (k : Fr C B lo hi) : Fr C A lo hi := fun b hb => (k b hb).trans (h b hb)
/-- a LAND at a, the Judge j apart from it -/
def LJ (h : IH) (I : Nat → Nat → Int) (a j : Nat) : Prop := (ShLand h a ∧ ShJu h j) ∧ (0 ≤ I a 0 ∧ I a 0 ≤ 7) ∧ I a 13 ≤ 6 ∧ LwOk h I j (j + 3) (lawOf h I a) ∧ (a + 11 < j ∨ j + 3 < a) ∧ (∀ b, a ≤ b → b ≤ a + 11 → ∀ k, inr (I b k)) ∧ (∀ s : Nat, s < 7 → (0 ≤ I (a + 1) s ∧ I (a + 1) s < 7) ∧ (0 ≤ I (a + 2) s ∧ I (a + 2) s < 7))
theorem LJ.rows {h : IH} {I I' : Nat → Nat → Int} {a j : Nat} (hl : LJ h I a j) (hf : Fr I' I j (j + 3)) {b : Nat} (h1 : a ≤ b) (h2 : b ≤ a + 11) : I' b = I b := hf b (by have := hl.2.2.2.2.1; omega)
theorem LJ.law {h : IH} {I I' : Nat → Nat → Int} {a j : Nat} (hl : LJ h I a j) (hf : Fr I' I j (j + 3)) : lawOf h I' a = lawOf h I a := by
  unfold lawOf
  rw [hl.rows hf (Nat.le_refl a) (by omega)]
theorem LJ.txt {h : IH} {I I' : Nat → Nat → Int} {a j x : Nat} (hl : LJ h I a j) (hf : Fr I' I j (j + 3)) (hx : lawOf h I a = some x) : ∀ b, x ≤ b → b ≤ x + 6 → I' b = I b := fun b h1 h2 => hf b (by have := (hl.2.2.2.1 x hx).2; omega)
theorem LJ.fr {h : IH} {I I' : Nat → Nat → Int} {a j : Nat} (hl : LJ h I a j) (hf : Fr I' I j (j + 3)) : LJ h I' a j := by
  have h0 := hl.rows hf (Nat.le_refl a) (by omega)
  have h1 := hl.rows hf (b := a + 1) (by omega) (by omega)
  have h2 := hl.rows hf (b := a + 2) (by omega) (by omega)
  refine ⟨hl.1, by rw [h0]; exact hl.2.1, by rw [h0]; exact hl.2.2.1, ?_, hl.2.2.2.2.1, fun b b1 b2 k => by rw [hl.rows hf b1 b2]; exact hl.2.2.2.2.2.1 b b1 b2 k, fun s hs => by rw [h1, h2]; exact hl.2.2.2.2.2.2 s hs⟩
  intro x hx
  rw [hl.law hf] at hx
  have ht := hl.txt hf hx
  obtain ⟨g1, g2⟩ := hl.2.2.2.1 x hx
  rw [ht x (Nat.le_refl _) (by omega)]
  exact ⟨g1.fr ht, g2⟩
theorem LJ.words {h : IH} {I I' : Nat → Nat → Int} {a j : Nat} (hl : LJ h I a j) (hf : Fr I' I j (j + 3)) (t s p : Int) : wordsOf I' a t s p = wordsOf I a t s p := by
  funext k
  unfold wordsOf
  rw [hl.rows hf (b := a + 3) (by omega) (by omega), hl.rows hf (b := a + 4) (by omega) (by omega), hl.rows hf (b := a + 5) (by omega) (by omega), hl.rows hf (b := a + 6) (by omega) (by omega), hl.rows hf (b := a + 8) (by omega) (by omega)]
theorem LJ.lawE {h : IH} {I I' : Nat → Nat → Int} {a j x : Nat} (hl : LJ h I a j) (hf : Fr I' I j (j + 3)) (hx : lawOf h I a = some x) (kind t s p : Int) : lawA I' a x kind t s p = lawA I a x kind t s p := by
  have ht := hl.txt hf hx
  unfold lawA lawT
  rw [hl.words hf, lastT_fr ht, ht x (Nat.le_refl _) (by omega)]
theorem LJ.send {h : IH} {I I' : Nat → Nat → Int} {a j : Nat} (hl : LJ h I a j) (hf : Fr I' I j (j + 3)) (s p t : Int) : sendV I' a (lawOf h I' a) s p t = sendV I a (lawOf h I a) s p t := by
  unfold sendV barV
  rw [hl.law hf, hl.rows hf (b := a + 6) (by omega) (by omega), hl.rows hf (b := a + 7) (by omega) (by omega)]
  cases hx : lawOf h I a with
  | none => rfl
  | some x =>
    dsimp only
    rw [hl.lawE hf hx]
theorem LJ.like {h : IH} {I I' : Nat → Nat → Int} {a j : Nat} (hl : LJ h I a j) (hf : Fr I' I j (j + 3)) (t s : Int) : likeV I' a (lawOf h I' a) t s = likeV I a (lawOf h I a) t s := by
  unfold likeV
  rw [hl.law hf]
  cases hx : lawOf h I a with
  | none =>
    dsimp only
    rw [hl.rows hf (b := a + 3) (by omega) (by omega)]
  | some x =>
    dsimp only
    rw [hl.lawE hf hx, hl.rows hf (b := a + 2) (by omega) (by omega), hl.rows hf (b := a + 3) (by omega) (by omega)]
theorem LJ.alt {h : IH} {I I' : Nat → Nat → Int} {a j : Nat} (hl : LJ h I a j) (hf : Fr I' I j (j + 3)) (s : Int) : altV I' a (lawOf h I' a) s = altV I a (lawOf h I a) s := by
  unfold altV
  rw [hl.law hf]
  cases hx : lawOf h I a with
  | none =>
    dsimp only
    rw [hl.rows hf (b := a + 3) (by omega) (by omega)]
  | some x =>
    dsimp only
    rw [hl.rows hf (b := a + 2) (by omega) (by omega), hl.lawE hf hx, hl.rows hf (b := a + 3) (by omega) (by omega)]
theorem LJ.have_ {h : IH} {I I' : Nat → Nat → Int} {a j : Nat} (hl : LJ h I a j) (hf : Fr I' I j (j + 3)) (t s : Int) : haveV I' a (lawOf h I' a) t s = haveV I a (lawOf h I a) t s := by
  unfold haveV
  rw [hl.send hf, hl.rows hf (b := a + 2) (by omega) (by omega)]
section P32
variable {d : Nat} {h : IH} {J I : Nat → Nat → Int} {a j v : Nat}
theorem l_send (hl : LJ h I a j) {s p t : Int} (hs : 0 ≤ s ∧ s < 7) (hp : 0 ≤ p ∧ p < 7) (ht : 0 ≤ t ∧ t < 7) : ∃ I', Fr I' I j (j + 3) ∧ rn (d + 4) 3 [iR (some j), iR (some a), iI s, iI p, iI t] (st h I J) = some (oI (sendV I a (lawOf h I a) s p t), st h I' J) := by
  obtain ⟨I', f, g⟩ := s_canSend (d := d) (J := J) hl.1.1 hl.1.2 hl.2.2.1 hl.2.2.2.1 hl.2.2.2.2.1 hl.2.2.2.2.2.1 hs hp ht
  exact ⟨I', fun b hb => f b (by omega) (by omega), g⟩
theorem l_have (hl : LJ h I a j) {t s : Int} (ht : 0 ≤ t ∧ t < 7) (hs : 0 ≤ s ∧ s < 7) : ∃ I', Fr I' I j (j + 3) ∧ rn (d + 5) 4 [iR (some j), iR (some a), iI t, iI s] (st h I J) = some (oI (haveV I a (lawOf h I a) t s), st h I' J) := by
  obtain ⟨I', f, g⟩ := s_canHave (d := d) (J := J) hl.1.1 hl.1.2 hl.2.2.1 hl.2.2.2.1 hl.2.2.2.2.1 hl.2.2.2.2.2.1 ht hs (hl.2.2.2.2.2.2 s.toNat (by omega)).2
  exact ⟨I', fun b hb => f b (by omega) (by omega), g⟩
theorem l_like (hl : LJ h I a j) {t s : Int} (ht : 0 ≤ t ∧ t < 7) (hs : 0 ≤ s ∧ s < 7) : ∃ I', Fr I' I j (j + 3) ∧ rn (d + 4) 1 [iR (some j), iR (some a), iR (lawOf h I a), iI t, iI s] (st h I J) = some (oI (likeV I a (lawOf h I a) t s), st h I' J) := by
  obtain ⟨I', f, g⟩ := s_likingOf (d := d) (J := J) hl.1.1 hl.1.2 hl.2.2.2.1 hl.2.2.2.2.1 hl.2.2.2.2.2.1 ht hs (hl.2.2.2.2.2.2 s.toNat (by omega)).2
  exact ⟨I', fun b hb => f b (by omega) (by omega), g⟩
theorem l_alt (hl : LJ h I a j) {s : Int} (hs : 0 ≤ s ∧ s < 7) : ∃ I', Fr I' I j (j + 3) ∧ rn (d + 4) 2 [iR (some j), iR (some a), iI s] (st h I J) = some (oI (altV I a (lawOf h I a) s), st h I' J) := by
  obtain ⟨I', f, g⟩ := s_alteredBells (d := d) (J := J) hl.1.1 hl.1.2 hl.2.2.1 hl.2.2.2.1 hl.2.2.2.2.1 hl.2.2.2.2.2.1 hs (hl.2.2.2.2.2.2 s.toNat (by omega)).2
  exact ⟨I', fun b hb => f b (by omega) (by omega), g⟩
theorem notnot {p : Prop} (h : p) : ¬ ¬ p := fun z => z h
/-- x is a TOWN of the LAND a -/
def isT (I : Nat → Nat → Int) (a : Nat) (x : Int) : Prop := 0 ≤ x ∧ x < I a 0
/-- what a swap of x and y answers -/
def swapR (h : IH) (I : Nat → Nat → Int) (a : Nat) (x y : Int) : Int :=
  if x = y then -1 else if ¬ (0 ≤ x ∧ x < I a 0) then -2 else if ¬ (0 ≤ y ∧ y < I a 0) then -2
  else if sendV I a (lawOf h I a) (I (a + 1) x.toNat) x y = 0 then -3 else if sendV I a (lawOf h I a) (I (a + 1) y.toNat) y x = 0 then -3 else I (a + 1) y.toNat
/-- a SUNDAY is put -/
def putI (I : Nat → Nat → Int) (a : Nat) (x s : Int) : Nat → Nat → Int := up (up I (a + 1) x.toNat s) (a + 2) s.toNat x
def swapI (I : Nat → Nat → Int) (a : Nat) (x y : Int) : Nat → Nat → Int := putI (putI I a x (I (a + 1) y.toNat)) a y (I (a + 1) x.toNat)
theorem putI_fr {A B : Nat → Nat → Int} {a lo hi : Nat} (hf : Fr A B lo hi) (hd : a + 11 < lo ∨ hi < a) (x s : Int) : Fr (putI A a x s) (putI B a x s) lo hi := by
  intro b hb
  funext k
  unfold putI up
  rw [hf b hb]
theorem s_trySwap (hv : ShMo h v) (hl : LJ h I a (v + 1)) (hd : a + 11 < v ∨ v + 5 < a) (x y : Int) : ∃ I', Fr I' (if swapR h I a x y < 0 then I else swapI I a x y) (v + 1) (v + 4) ∧ rn (d + 5) 21 [iR (some v), iR (some a), iI x, iI y] (st h I J) = some (oI (swapR h I a x y), st h I' J) := by
  have lt := La_t hl.1.1
  have lr1 := La_r1 hl.1.1
  have lt1 := La_t1 hl.1.1
  have ll1 := La_l1 hl.1.1
  have jt := Ju_t hl.1.2
  have vt := Mo_t hv
  have vr := Mo_r0 hv
  have hn := hl.2.1
  have n10 : ¬ ((1 : Int) = 0) := by decide
  have fin : ∀ (r : Int) (I1 : Nat → Nat → Int), r < 0 → swapR h I a x y = r → Fr I1 I (v + 1) (v + 4) → ∃ I', Fr I' (if swapR h I a x y < 0 then I else swapI I a x y) (v + 1) (v + 4) ∧ some (oI r, st h I1 J) = some (oI (swapR h I a x y), st h I' J) := by
    intro r I1 hr e hf
    rw [e, if_pos hr]
    exact ⟨I1, hf, rfl⟩
  rw [r_Mo_trySwap, e_Mo_trySwap]
  by_cases h1 : x = y
  · rw [if_pos h1]
    exact fin _ I (by omega) (by unfold swapR; rw [if_pos h1]) (Fr.rf _ _ _)
  rw [if_neg h1, xB_s, yck lt, s_isTown hl.1.1, kI_o]
  by_cases h2 : 0 ≤ x ∧ x < I a 0
  case neg =>
    rw [if_neg h2, if_pos rfl]
    exact fin _ I (by omega) (by unfold swapR; rw [if_neg h1, if_pos h2]) (Fr.rf _ _ _)
  rw [if_pos h2, if_neg n10, xB_s, yck lt, s_isTown hl.1.1, kI_o]
  by_cases h3 : 0 ≤ y ∧ y < I a 0
  case neg =>
    rw [if_neg h3, if_pos rfl]
    exact fin _ I (by omega) (by unfold swapR; rw [if_neg h1, if_neg (notnot h2), if_pos h3]) (Fr.rf _ _ _)
  rw [if_pos h3, if_neg n10]
  have hx : 0 ≤ x ∧ x < 7 := by omega
  have hy : 0 ≤ y ∧ y < 7 := by omega
  have hhx := (hl.2.2.2.2.2.2 x.toNat (by omega)).1
  have hhy := (hl.2.2.2.2.2.2 y.toNat (by omega)).1
  obtain ⟨I1, f1, g1⟩ := l_send (d := d) (J := J) hl hhx hx hy
  rw [xB_s, ygR lt lr1, xB_s, yaI lt1 ll1 hx.1 (by omega), xB_s, ygR lt lr1, xB_s, yaI lt1 ll1 hy.1 (by omega), ygR vt vr, xB_s, yck jt, g1, kI_o]
  by_cases h4 : sendV I a (lawOf h I a) (I (a + 1) x.toNat) x y = 0
  · rw [if_pos h4]
    exact fin _ I1 (by omega) (by unfold swapR; rw [if_neg h1, if_neg (notnot h2), if_neg (notnot h3), if_pos h4]) f1
  rw [if_neg h4]
  have hl1 := hl.fr f1
  obtain ⟨I2, f2, g2⟩ := l_send (d := d) (J := J) hl1 hhy hy hx
  rw [hl.send f1] at g2
  rw [ygR vt vr, xB_s, yck jt, g2, kI_o]
  by_cases h5 : sendV I a (lawOf h I a) (I (a + 1) y.toNat) y x = 0
  · rw [if_pos h5]
    exact fin _ I2 (by omega) (by unfold swapR; rw [if_neg h1, if_neg (notnot h2), if_neg (notnot h3), if_neg h4, if_pos h5]) (f1.tr f2)
  have es : swapR h I a x y = I (a + 1) y.toNat := by unfold swapR; rw [if_neg h1, if_neg (notnot h2), if_neg (notnot h3), if_neg h4, if_neg h5]
  rw [if_neg h5, es, if_neg (by omega), xB_s, yck lt, s_put hl.1.1 hx hhy, kV_o, xB_s, yck lt, s_put hl.1.1 hy hhx, kV_o]
  exact ⟨_, putI_fr (putI_fr (f1.tr f2) (by omega) _ _) (by omega) _ _, rfl⟩
/-- what a closing answers -/
def closeR (I : Nat → Nat → Int) (a : Nat) (x y : Int) : Int :=
  if x = y then -1 else if ¬ (0 ≤ x ∧ x < I a 0) then -2 else if ¬ (0 ≤ y ∧ y < I a 0) then -2
  else if I (a + 6) (x * 7 + y).toNat = 0 then -3 else iand (ishr (landTurn I a x y (a + 7) x.toNat) y) 1
theorem s_tryClose (hl : ShLand h a) (hn : 0 ≤ I a 0 ∧ I a 0 ≤ 7) (x y : Int) : rn (d + 2) 23 [iR (some v), iR (some a), iI x, iI y] (st h I J) = some (oI (closeR I a x y), st h (if x = y ∨ ¬ (0 ≤ x ∧ x < I a 0) ∨ ¬ (0 ≤ y ∧ y < I a 0) ∨ I (a + 6) (x * 7 + y).toNat = 0 then I else landTurn I a x y) J) := by
  have lt := La_t hl
  have n10 : ¬ ((1 : Int) = 0) := by decide
  rw [r_Mo_tryClose, e_Mo_tryClose]
  by_cases h1 : x = y
  · have es : closeR I a x y = -1 := by unfold closeR; rw [if_pos h1]
    rw [es, if_pos h1, if_pos (Or.inl h1)]
  rw [if_neg h1, xB_s, yck lt, s_isTown hl, kI_o]
  by_cases h2 : 0 ≤ x ∧ x < I a 0
  case neg =>
    have es : closeR I a x y = -2 := by unfold closeR; rw [if_neg h1, if_pos h2]
    rw [es, if_neg h2, if_pos rfl, if_pos (Or.inr (Or.inl h2))]
  rw [if_pos h2, if_neg n10, xB_s, yck lt, s_isTown hl, kI_o]
  by_cases h3 : 0 ≤ y ∧ y < I a 0
  case neg =>
    have es : closeR I a x y = -2 := by unfold closeR; rw [if_neg h1, if_neg (notnot h2), if_pos h3]
    rw [es, if_neg h3, if_pos rfl, if_pos (Or.inr (Or.inr (Or.inl h3)))]
  have hx : 0 ≤ x ∧ x < 7 := by omega
  have hy : 0 ≤ y ∧ y < 7 := by omega
  rw [if_pos h3, if_neg n10, xB_s, yck lt, s_milesBetween hl hx hy, kI_o]
  by_cases h4 : I (a + 6) (x * 7 + y).toNat = 0
  · have es : closeR I a x y = -3 := by unfold closeR; rw [if_neg h1, if_neg (notnot h2), if_neg (notnot h3), if_pos h4]
    rw [es, if_pos h4, if_pos (Or.inr (Or.inr (Or.inr h4)))]
  have es : closeR I a x y = iand (ishr (landTurn I a x y (a + 7) x.toNat) y) 1 := by unfold closeR; rw [if_neg h1, if_neg (notnot h2), if_neg (notnot h3), if_neg h4]
  rw [es, if_neg h4, xB_s, yck lt, s_turnClosed hl hx hy, kV_o, xB_s, yck lt, s_closedBetween hl hx, kI_o, if_neg (fun z => z.elim h1 (fun z => z.elim (fun z => z h2) (fun z => z.elim (fun z => z h3) h4)))]
end P32
