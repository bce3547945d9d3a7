/-! Liked, altered, sent: what the Judge tells of a LAND (by program, wip/whole/gen31.py) -/
/-- the LAW in force of the LAND a -/
def lawOf (h : IH) (I : Nat → Nat → Int) (a : Nat) : Option Nat := if 0 ≤ I a 14 ∧ I a 14 < I a 13 then hR h (a + 11) (I a 14).toNat else none
/-- a LAW, if there is one, is a TEXT, apart from the rows lo .. hi -/
def LwOk (h : IH) (I : Nat → Nat → Int) (lo hi : Nat) (w : Option Nat) : Prop := ∀ x, w = some x → TxOk h I x (I x 7).toNat ∧ (x + 6 < lo ∨ hi < x)
def lawA (I : Nat → Nat → Int) (a x : Nat) (kind t s p : Int) : Int := lawT I a x (I x 7).toNat kind t s p
def likeV (I : Nat → Nat → Int) (a : Nat) (w : Option Nat) (t s : Int) : Int := match w with
  | none => I (a + 3) s.toNat
  | some x => if lawA I a x 4 t s (I (a + 2) s.toNat) = BRK then I (a + 3) s.toNat else imax 0 (imin (lawA I a x 4 t s (I (a + 2) s.toNat)) 99)
def altV (I : Nat → Nat → Int) (a : Nat) (w : Option Nat) (s : Int) : Int := match w with
  | none => I (a + 3) s.toNat
  | some x => if lawA I a x 5 (I (a + 2) s.toNat) s (I (a + 2) s.toNat) = BRK then I (a + 3) s.toNat else imax 0 (imin (lawA I a x 5 (I (a + 2) s.toNat) s (I (a + 2) s.toNat)) 9)
def barV (I : Nat → Nat → Int) (a : Nat) (w : Option Nat) (t s p : Int) : Int := match w with
  | none => 1
  | some x => if lawA I a x 6 t s p = BRK then 1 else 0
def sendV (I : Nat → Nat → Int) (a : Nat) (w : Option Nat) (s p t : Int) : Int := if I (a + 6) (p * 7 + t).toNat = 0 then 0 else if iand (ishr (I (a + 7) p.toNat) t) 1 = 1 then 0 else barV I a w t s p
def haveV (I : Nat → Nat → Int) (a : Nat) (w : Option Nat) (t s : Int) : Int := if I (a + 2) s.toNat = t then 1 else sendV I a w s (I (a + 2) s.toNat) t
theorem barV_01 (I : Nat → Nat → Int) (a : Nat) (w : Option Nat) (t s p : Int) : barV I a w t s p = 0 ∨ barV I a w t s p = 1 := by
  unfold barV
  split
  · exact Or.inr rfl
  · split
    · exact Or.inr rfl
    · exact Or.inl rfl
theorem sendV_01 (I : Nat → Nat → Int) (a : Nat) (w : Option Nat) (s p t : Int) : sendV I a w s p t = 0 ∨ sendV I a w s p t = 1 := by
  unfold sendV
  split
  · exact Or.inl rfl
  · split
    · exact Or.inl rfl
    · exact barV_01 _ _ _ _ _ _
theorem words_in {I : Nat → Nat → Int} {a : Nat} (hin : ∀ b, a ≤ b → b ≤ a + 11 → ∀ k, inr (I b k)) {t s p : Int} (ht : 0 ≤ t ∧ t < 7) (hs : 0 ≤ s ∧ s < 7) (k : Nat) : inr (wordsOf I a t s p k) := by
  unfold wordsOf
  split
  · unfold inr; omega
  · unfold inr; omega
  · exact hin _ (by omega) (by omega) _
  · exact hin _ (by omega) (by omega) _
  · unfold inr; split <;> omega
  · exact hin _ (by omega) (by omega) _
  · exact hin _ (by omega) (by omega) _
  · exact hin _ (by omega) (by omega) _
  · exact hin _ (by omega) (by omega) _
section P31
variable {d : Nat} {h : IH} {J I0 : Nat → Nat → Int} {a j : Nat} {w : Option Nat}
theorem s_likingOf (hl : ShLand h a) (hj : ShJu h j) (hw : LwOk h I0 j (j + 3) w) (hda : a + 11 < j ∨ j + 3 < a) (hin : ∀ b, a ≤ b → b ≤ a + 11 → ∀ k, inr (I0 b k)) {t s : Int} (ht : 0 ≤ t ∧ t < 7) (hs : 0 ≤ s ∧ s < 7) (hat : 0 ≤ I0 (a + 2) s.toNat ∧ I0 (a + 2) s.toNat < 7) :
    ∃ I' : Nat → Nat → Int, (∀ b, b ≠ j + 1 → b ≠ j + 3 → I' b = I0 b) ∧ rn (d + 4) 1 [iR (some j), iR (some a), iR w, iI t, iI s] (st h I0 J) = some (oI (likeV I0 a w t s), st h I' J) := by
  rw [r_Ju_likingOf, e_Ju_likingOf]
  cases w with
  | none =>
    refine ⟨I0, fun _ _ _ => rfl, ?_⟩
    dsimp only
    rw [xB_s, ygR (La_t hl) (La_r3 hl), xB_s, yaI (La_t3 hl) (La_l3 hl) hs.1 hs.2]
    rfl
  | some x =>
    obtain ⟨hx, hd⟩ := hw x rfl
    obtain ⟨g1, I', f2, g2⟩ := s_askLaw (d := d) (J := J) hl hj hx hd hda ht hs hat (fun k _ => words_in hin ht hs k) 4
    refine ⟨I', f2, ?_⟩
    dsimp only
    rw [xB_s, ygR (La_t hl) (La_r2 hl), xB_s, yaI (La_t2 hl) (La_l2 hl) hs.1 hs.2, yck (Ju_t hj), g1, kV_o, yck (Ju_t hj), g2, kI_o]
    unfold likeV lawA
    dsimp only
    by_cases hb : lawT I0 a x (I0 x 7).toNat 4 t s (I0 (a + 2) s.toNat) = BRK
    · rw [if_pos hb, if_pos hb, xB_s, ygR (La_t hl) (La_r3 hl), xB_s, yaI (La_t3 hl) (La_l3 hl) hs.1 hs.2, f2 (a + 3) (by omega) (by omega)]
    · rw [if_neg hb, if_neg hb, s_nearest, kI_o]
theorem s_alteredBells (hl : ShLand h a) (hj : ShJu h j) (hlc : I0 a 13 ≤ 6) (hw : LwOk h I0 j (j + 3) (lawOf h I0 a)) (hda : a + 11 < j ∨ j + 3 < a) (hin : ∀ b, a ≤ b → b ≤ a + 11 → ∀ k, inr (I0 b k)) {s : Int} (hs : 0 ≤ s ∧ s < 7) (hat : 0 ≤ I0 (a + 2) s.toNat ∧ I0 (a + 2) s.toNat < 7) :
    ∃ I' : Nat → Nat → Int, (∀ b, b ≠ j + 1 → b ≠ j + 3 → I' b = I0 b) ∧ rn (d + 4) 2 [iR (some j), iR (some a), iI s] (st h I0 J) = some (oI (altV I0 a (lawOf h I0 a) s), st h I' J) := by
  have hlf : rn (d + 3) 12 [iR (some a)] (st h I0 J) = some (oR (lawOf h I0 a), st h I0 J) := s_lawInForce (d := d + 1) (J := J) hl hlc
  rw [r_Ju_alteredBells, e_Ju_alteredBells, xB_s, yck (La_t hl), hlf, kR_o]
  cases hc : lawOf h I0 a with
  | none =>
    refine ⟨I0, fun _ _ _ => rfl, ?_⟩
    dsimp only
    rw [xB_s, ygR (La_t hl) (La_r3 hl), xB_s, yaI (La_t3 hl) (La_l3 hl) hs.1 hs.2]
    rfl
  | some x =>
    obtain ⟨hx, hd⟩ := hw x hc
    obtain ⟨g1, I', f2, g2⟩ := s_askLaw (d := d) (J := J) hl hj hx hd hda hat hs hat (fun k _ => words_in hin hat hs k) 5
    refine ⟨I', f2, ?_⟩
    dsimp only
    rw [xB_s, ygR (La_t hl) (La_r2 hl), xB_s, yaI (La_t2 hl) (La_l2 hl) hs.1 hs.2, xB_s, ygR (La_t hl) (La_r2 hl), xB_s, yaI (La_t2 hl) (La_l2 hl) hs.1 hs.2, yck (Ju_t hj), g1, kV_o, yck (Ju_t hj), g2, kI_o]
    unfold altV lawA
    dsimp only
    by_cases hb : lawT I0 a x (I0 x 7).toNat 5 (I0 (a + 2) s.toNat) s (I0 (a + 2) s.toNat) = BRK
    · rw [if_pos hb, if_pos hb, xB_s, ygR (La_t hl) (La_r3 hl), xB_s, yaI (La_t3 hl) (La_l3 hl) hs.1 hs.2, f2 (a + 3) (by omega) (by omega)]
    · rw [if_neg hb, if_neg hb, s_nearest, kI_o]
theorem s_canSend (hl : ShLand h a) (hj : ShJu h j) (hlc : I0 a 13 ≤ 6) (hw : LwOk h I0 j (j + 3) (lawOf h I0 a)) (hda : a + 11 < j ∨ j + 3 < a) (hin : ∀ b, a ≤ b → b ≤ a + 11 → ∀ k, inr (I0 b k)) {s p t : Int} (hs : 0 ≤ s ∧ s < 7) (hp : 0 ≤ p ∧ p < 7) (ht : 0 ≤ t ∧ t < 7) :
    ∃ I' : Nat → Nat → Int, (∀ b, b ≠ j + 1 → b ≠ j + 3 → I' b = I0 b) ∧ rn (d + 4) 3 [iR (some j), iR (some a), iI s, iI p, iI t] (st h I0 J) = some (oI (sendV I0 a (lawOf h I0 a) s p t), st h I' J) := by
  have hlf : rn (d + 3) 12 [iR (some a)] (st h I0 J) = some (oR (lawOf h I0 a), st h I0 J) := s_lawInForce (d := d + 1) (J := J) hl hlc
  rw [r_Ju_canSend, e_Ju_canSend, xB_s, yck (La_t hl), s_milesBetween hl hp ht, kI_o]
  unfold sendV
  by_cases h1 : I0 (a + 6) (p * 7 + t).toNat = 0
  · rw [if_pos h1, if_pos h1]
    exact ⟨I0, fun _ _ _ => rfl, rfl⟩
  rw [if_neg h1, if_neg h1, xB_s, yck (La_t hl), s_closedBetween hl hp, kI_o]
  by_cases h2 : iand (ishr (I0 (a + 7) p.toNat) t) 1 = 1
  · rw [if_pos h2, if_pos h2]
    exact ⟨I0, fun _ _ _ => rfl, rfl⟩
  rw [if_neg h2, if_neg h2, xB_s, yck (La_t hl), hlf, kR_o]
  cases hc : lawOf h I0 a with
  | none => exact ⟨I0, fun _ _ _ => rfl, rfl⟩
  | some x =>
    obtain ⟨hx, hd⟩ := hw x hc
    obtain ⟨g1, I', f2, g2⟩ := s_askLaw (d := d) (J := J) hl hj hx hd hda ht hs hp (fun k _ => words_in hin ht hs k) 6
    refine ⟨I', f2, ?_⟩
    dsimp only
    rw [yck (Ju_t hj), g1, kV_o, yck (Ju_t hj), g2, kI_o]
    unfold barV lawA
    dsimp only
    by_cases hb : lawT I0 a x (I0 x 7).toNat 6 t s p = BRK
    · rw [if_pos hb, if_pos hb, xZ_1]
    · rw [if_neg hb, if_neg hb, xZ_0]
theorem s_canHave (hl : ShLand h a) (hj : ShJu h j) (hlc : I0 a 13 ≤ 6) (hw : LwOk h I0 j (j + 3) (lawOf h I0 a)) (hda : a + 11 < j ∨ j + 3 < a) (hin : ∀ b, a ≤ b → b ≤ a + 11 → ∀ k, inr (I0 b k)) {t s : Int} (ht : 0 ≤ t ∧ t < 7) (hs : 0 ≤ s ∧ s < 7) (hat : 0 ≤ I0 (a + 2) s.toNat ∧ I0 (a + 2) s.toNat < 7) :
    ∃ I' : Nat → Nat → Int, (∀ b, b ≠ j + 1 → b ≠ j + 3 → I' b = I0 b) ∧ rn (d + 5) 4 [iR (some j), iR (some a), iI t, iI s] (st h I0 J) = some (oI (haveV I0 a (lawOf h I0 a) t s), st h I' J) := by
  rw [r_Ju_canHave, e_Ju_canHave, xB_s, ygR (La_t hl) (La_r2 hl), xB_s, yaI (La_t2 hl) (La_l2 hl) hs.1 hs.2]
  unfold haveV
  by_cases h1 : I0 (a + 2) s.toNat = t
  · rw [if_pos h1, if_pos h1]
    exact ⟨I0, fun _ _ _ => rfl, rfl⟩
  rw [if_neg h1, if_neg h1, xB_s, ygR (La_t hl) (La_r2 hl), xB_s, yaI (La_t2 hl) (La_l2 hl) hs.1 hs.2, yck (Ju_t hj)]
  obtain ⟨I', f1, g1⟩ := s_canSend (d := d) (J := J) hl hj hlc hw hda hin hs hat ht
  refine ⟨I', f1, ?_⟩
  rw [g1, kI_o]
  rcases sendV_01 I0 a (lawOf h I0 a) s (I0 (a + 2) s.toNat) t with e | e
  · rw [e, if_pos rfl, xZ_0]
  · rw [e, if_neg (by decide), xZ_1]
end P31
