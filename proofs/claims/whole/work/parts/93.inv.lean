/-! What holds between two calls (by program, wip/whole/gen93.py) -/
/-- a block of cells behind all that both constructors made -/
def Bk (own : Nat → Nat) (N x len : Nat) : Prop := 118 ≤ x ∧ x + len ≤ N ∧ ∀ i, i < len → own (x + i) = x
def IvL (h : IH) (I : Nat → Nat → Int) (own : Nat → Nat) (a : Nat) (K : Nat → Int) : Prop := (∃ LW, RL h I a K LW ∧ KOk K ∧ LwA K LW) ∧ ∀ j x, hR h (a + 11) j = some x → hT h x = 19 ∧ Bk own (hN h) x 7
/-- the reference's row of an image -/
def imK (I : Nat → Nat → Int) (k : Nat) : Nat → Int := fun i => I 91 (5794 * k + i)
def IvI (h : IH) (I : Nat → Nat → Int) (own : Nat → Nat) (k : Nat) : Prop := (hR h 40 k = none ∧ I 92 k = 0) ∨ ∃ a, hR h 40 k = some a ∧ I 92 k = 1 ∧ ShLand h a ∧ Bk own (hN h) a 12 ∧ IvL h I own a (imK I k)
def IvT (I : Nat → Nat → Int) : Prop := (I 41 1 = I 88 13 ∧ 0 ≤ I 88 13 ∧ I 88 13 ≤ 400) ∧ (∀ i, (0 ≤ I 42 i ∧ I 42 i ≤ 255) ∧ I 95 i = sb (I 42 i)) ∧ I 43 1 = I 88 14 ∧ StOk I
/-- what hands move, as it may be -/
def KMv (n : Int) (F : Nat → Int) : Prop := ((∀ u : Nat, (u : Int) < n → 0 ≤ F u ∧ F u < n) ∧ ∀ s : Nat, (s : Int) < n → ∃ u : Nat, (u : Int) < n ∧ F u = s) ∧ (∀ s, s < 7 → 0 ≤ F (7 + s) ∧ F (7 + s) ≤ 9) ∧ (∀ i, i < 49 → (0 ≤ F (14 + i) ∧ F (14 + i) ≤ 99) ∧ (F (63 + i) = 0 ∨ F (63 + i) = 1)) ∧ (∀ x y, x < 7 → y < 7 → F (63 + (7 * x + y)) = F (63 + (7 * y + x))) ∧ 0 ≤ F 112 ∧ F 112 ≤ 999
/-- the row P of the past is F, kept by the kind that stands behind F -/
def RwP (n : Int) (P F : Nat → Int) : Prop := KMv n F ∧ (∀ t : Nat, t < 7 → (t : Int) < n → P t = F t) ∧ (∀ s, s < 7 → P (7 + s) = F (7 + s)) ∧ (∀ x y : Nat, x < 7 → y < 7 → iand (ishr (P (14 + x)) y) 1 = F (63 + (7 * x + y))) ∧ (∀ j, j < 49 → P (21 + j) = F (14 + j)) ∧ (P 70 = F 112 ∧ P 71 = F 113) ∧ (0 ≤ F 113 ∧ F 113 ≤ 3) ∧ ∀ x, x < 7 → 0 ≤ P (14 + x) ∧ P (14 + x) < 128
def pR73 (P : Nat → Int) (r : Nat) : Nat → Int := fun j => P (72 * r + j)
def pR101 (F : Nat → Int) (i : Nat) : Nat → Int := fun j => F (114 * i + j)
/-- what can be undone: P and T the class's rows 73 and 72, F the reference's 101, u how many -/
def RgP (n : Int) (T P F : Nat → Int) (u : Int) : Prop := ∃ kp nx : Nat, kp ≤ 16 ∧ nx < 17 ∧ T 0 = (kp : Int) ∧ T 1 = (nx : Int) ∧ u = (kp : Int) ∧ ∀ i, i < kp → RwP n (pR73 P ((nx + 17 - kp + i) % 17)) (pR101 F i)
def IvP (I : Nat → Nat → Int) : Prop := RgP (I 90 183) (I 72) (I 73) (I 101) (I 88 31)
/-- the rows of a LAND in their bounds -/
def LdR (I : Nat → Nat → Int) (a : Nat) : Prop := (∀ b, a ≤ b → b ≤ a + 11 → ∀ k, inr (I b k)) ∧ (∀ k, 0 ≤ I (a + 3) k ∧ I (a + 3) k ≤ 9) ∧ (∀ k, 0 ≤ I (a + 5) k ∧ I (a + 5) k ≤ 99) ∧ ∀ x : Nat, 0 ≤ I (a + 7) x ∧ I (a + 7) x < 128
def IvC (I : Nat → Nat → Int) : Prop := (0 ≤ I 28 0 ∧ I 28 0 ≤ 7) ∧ (I 88 55 = I 28 0 ∨ (I 88 55 = -1 ∧ I 28 0 = 0)) ∧ (∀ t : Nat, t < 7 → (t : Int) < I 28 0 → I 29 t = I 117 t ∧ I 31 t = I 117 (7 + t)) ∧ LdR I 28
def IvR (I : Nat → Nat → Int) (k : Nat) : Prop := (I 3 15 = I 88 0 ∧ I 3 16 = I 88 6 ∧ I 3 17 = I 88 47) ∧ (I 87 0 = I 89 1 ∧ I 87 1 = I 89 2 ∧ I 87 2 = I 89 3 ∧ I 87 3 = I 89 5 ∧ I 87 4 = I 89 6) ∧ ∀ j, j < 5 → 0 ≤ I 87 j ∧ I 87 j ≤ (k : Int)
/-- what was found of the way home: F the fields, S of what it was found, Q and P the rows -/
def HmS (F S Q P : Nat → Int) : Prop := F 2 = -1 ∨ ∃ (n : Nat) (a : Nat → Nat) (snd : Nat → Nat → Nat → Bool), ArN n a ∧ (F 2 = (n : Int) ∧ F 3 = ((packA a : Nat) : Int)) ∧ (∀ j, j < 49 → S j = rowF n snd j) ∧ HmA n (bfsB n snd a) F Q P
def IvW (h : IH) (I : Nat → Nat → Int) (own : Nat → Nat) : Prop := (hR h 83 6 = none ∧ HmS (I 83) (I 85) (fun _ => 0) (fun _ => 0)) ∨ ∃ q p s, (hR h 83 6 = some q ∧ hR h 83 7 = some p ∧ hR h 83 8 = some s) ∧ (Bk own (hN h) q 1 ∧ Bk own (hN h) p 1 ∧ Bk own (hN h) s 1 ∧ q ≠ p) ∧ (hT h q = 0 ∧ hL h q = 5040) ∧ (hT h p = 0 ∧ hL h p = 5040) ∧ (hT h s = 1 ∧ hL h s = 4096) ∧ HmS (I 83) (I 85) (I q) (I p)
def IvN (h : IH) (k : Nat) : Prop := k ≤ 1000 ∧ 118 ≤ hN h ∧ ((hR h 83 6 = none ∧ hN h ≤ 118 + 12 * k ∧ hS h ≤ 100000 + 2000 * k) ∨ (hR h 83 6 ≠ none ∧ hN h ≤ 121 + 12 * k ∧ hS h ≤ 120000 + 2000 * k))
def Sc0 (L : Nat) (xs : Nat → Int32) (h : IH) (I : Nat → Nat → Int) : Prop := hT h 0 = 0 ∧ hL h 0 = L ∧ I 0 = fun i => (xs i).toInt
def IvB (L : Nat) (xs : Nat → Int32) (h : IH) (I : Nat → Nat → Int) : Prop := ShT h ∧ ShM h 88 ∧ Sc0 L xs h I ∧ I 1 = z0M ∧ ∀ i, I 94 i = wordB.getD i 0
def Inv (L : Nat) (xs : Nat → Int32) (k : Nat) (h : IH) (I : Nat → Nat → Int) : Prop := ∃ own : Nat → Nat, IvB L xs h I ∧ IvL h I own 4 (I 90) ∧ ((IvI h I own 0 ∧ IvI h I own 1) ∧ ∀ x y, hR h 40 0 = some x → hR h 40 1 = some y → x ≠ y) ∧ IvT I ∧ IvP I ∧ IvC I ∧ IvR I k ∧ IvW h I own ∧ IvN h k
/-- the class's scratch rows alone are others -/
def TnQ (I' I : Nat → Nat → Int) : Prop := ∀ b, (b < 52 ∨ 71 < b) → (b < 76 ∨ 82 < b) → b ≠ 84 → b ≠ 86 → I' b = I b
/-- the reference's scratch rows alone are others -/
def MnQ (I' I : Nat → Nat → Int) : Prop := (∀ b, (b < 88 ∨ 117 ≤ b ∨ b = 89 ∨ b = 90 ∨ b = 91 ∨ b = 92 ∨ b = 94 ∨ b = 95 ∨ b = 101) → I' b = I b) ∧ ∀ i, (i = 0 ∨ i = 6 ∨ i = 13 ∨ i = 14 ∨ i = 31 ∨ i = 47 ∨ i = 55) → I' 88 i = I 88 i
def Qt (I' I : Nat → Nat → Int) : Prop := (∀ b, (b < 52 ∨ 71 < b) → (b < 76 ∨ 82 < b) → b ≠ 84 → b ≠ 86 → (b < 88 ∨ 117 ≤ b ∨ b = 89 ∨ b = 90 ∨ b = 91 ∨ b = 92 ∨ b = 94 ∨ b = 95 ∨ b = 101) → I' b = I b) ∧ ∀ i, (i = 0 ∨ i = 6 ∨ i = 13 ∨ i = 14 ∨ i = 31 ∨ i = 47 ∨ i = 55) → I' 88 i = I 88 i
section P93
variable {h : IH} {I I' A B C : Nat → Nat → Int} {own : Nat → Nat} {a k L : Nat} {K : Nat → Int} {xs : Nat → Int32}
theorem TnQ.rf (I : Nat → Nat → Int) : TnQ I I := fun _ _ _ _ _ => rfl
theorem TnQ.tr (h1 : TnQ A B) (h2 : TnQ B C) : TnQ A C := fun b q1 q2 q3 q4 => (h1 b q1 q2 q3 q4).trans (h2 b q1 q2 q3 q4)
theorem MnQ.rf (I : Nat → Nat → Int) : MnQ I I := ⟨fun _ _ => rfl, fun _ _ => rfl⟩
theorem MnQ.tr (h1 : MnQ A B) (h2 : MnQ B C) : MnQ A C := ⟨fun b q => (h1.1 b q).trans (h2.1 b q), fun i q => (h1.2 i q).trans (h2.2 i q)⟩
theorem TnQ.qt (h1 : TnQ A B) : Qt A B := ⟨fun b q1 q2 q3 q4 _ => h1 b q1 q2 q3 q4, fun i _ => by rw [h1 88 (by omega) (by omega) (by omega) (by omega)]⟩
theorem MnQ.qt (h1 : MnQ A B) : Qt A B := ⟨fun b _ _ _ _ q => h1.1 b q, h1.2⟩
theorem Qt.rf (I : Nat → Nat → Int) : Qt I I := ⟨fun _ _ _ _ _ _ => rfl, fun _ _ => rfl⟩
theorem Qt.tr (h1 : Qt A B) (h2 : Qt B C) : Qt A C := ⟨fun b q1 q2 q3 q4 q5 => (h1.1 b q1 q2 q3 q4 q5).trans (h2.1 b q1 q2 q3 q4 q5), fun i q => (h1.2 i q).trans (h2.2 i q)⟩
theorem PpFr.tq (f : PpFr A B) : TnQ A B := fun b q1 q2 q3 q4 => f b (by omega) (by omega)
theorem Fr.tq {lo hi : Nat} (f : Fr A B lo hi) (h1 : 52 ≤ lo) (h2 : hi ≤ 71) : TnQ A B := fun b q1 _ _ _ => f b (by omega)
theorem AsFr.mq (f : AsFr A B) : MnQ A B := ⟨fun b q => f.1 b (by omega) (by omega), fun i q => f.2 i (by omega) (by omega) (by omega) (by omega)⟩
theorem LwFr.mq (f : LwFr A B) : MnQ A B := ⟨fun b q => f.1 b (by omega) (by omega) (by omega) (by omega), fun i q => f.2 i (by omega) (by omega) (by omega) (by omega)⟩
theorem GtFr.mq (f : GtFr A B) : MnQ A B := ⟨fun b q => f.1 b (by omega) (by omega) (by omega), fun i q => f.2 i (by omega) (by omega)⟩
theorem Qt.c (q : Qt A B) {b : Nat} (hb : b = 0 ∨ b = 1 ∨ b = 3 ∨ (4 ≤ b ∧ b ≤ 15) ∨ (28 ≤ b ∧ b ≤ 50) ∨ b = 72 ∨ b = 73 ∨ b = 83 ∨ b = 85 ∨ b = 87 ∨ b = 89 ∨ b = 90 ∨ b = 91 ∨ b = 92 ∨ b = 94 ∨ b = 95 ∨ b = 101 ∨ 117 ≤ b) : A b = B b := q.1 b (by omega) (by omega) (by omega) (by omega) (by omega)
theorem IvL.fr {K' : Nat → Int} (v : IvL h I own a K) (hI : ∀ b, a ≤ b → b ≤ a + 11 → I' b = I b) (ht : ∀ b, 118 ≤ b → I' b = I b) (e : K' = K) : IvL h I' own a K' := by
  subst e
  obtain ⟨⟨LW, r, k, l⟩, w⟩ := v
  exact ⟨⟨LW, r.tr hI rfl fun j x hx b b1 b2 => ⟨rfl, rfl, rfl, ht b (by have := (w j x hx).2.1; omega)⟩, k, l⟩, w⟩
theorem IvI.fr (v : IvI h I own k) (h1 : I' 91 = I 91) (h2 : I' 92 = I 92) (ht : ∀ b, 118 ≤ b → I' b = I b) : IvI h I' own k := by
  rcases v with ⟨v1, v2⟩ | ⟨a, v1, v2, v3, v4, v5⟩
  · exact Or.inl ⟨v1, by rw [h2]; exact v2⟩
  · exact Or.inr ⟨a, v1, by rw [h2]; exact v2, v3, v4, v5.fr (fun b b1 _ => ht b (by have := v4.1; omega)) ht (by unfold imK; rw [h1])⟩
theorem IvT.fr (v : IvT I) (h41 : I' 41 = I 41) (h42 : I' 42 = I 42) (h43 : I' 43 = I 43) (h45 : I' 45 = I 45) (h46 : I' 46 = I 46) (h95 : I' 95 = I 95) (e13 : I' 88 13 = I 88 13) (e14 : I' 88 14 = I 88 14) : IvT I' := by
  unfold IvT StOk at *
  rw [h41, h42, h43, h45, h46, h95, e13, e14]
  exact v
theorem IvP.fr (v : IvP I) (h72 : I' 72 = I 72) (h73 : I' 73 = I 73) (h101 : I' 101 = I 101) (e : I' 90 183 = I 90 183) (e31 : I' 88 31 = I 88 31) : IvP I' := by
  unfold IvP at *
  rw [h72, h73, h101, e, e31]
  exact v
theorem LdR.fr {a : Nat} (r : LdR I a) (h : ∀ b, a ≤ b → b ≤ a + 11 → I' b = I b) : LdR I' a := ⟨fun b b1 b2 => by rw [h b b1 b2]; exact r.1 b b1 b2, by rw [h (a + 3) (by omega) (by omega)]; exact r.2.1, by rw [h (a + 5) (by omega) (by omega)]; exact r.2.2.1, by rw [h (a + 7) (by omega) (by omega)]; exact r.2.2.2⟩
theorem IvC.fr (v : IvC I) (ha : ∀ b, 28 ≤ b → b ≤ 39 → I' b = I b) (h117 : I' 117 = I 117) (e : I' 88 55 = I 88 55) : IvC I' := by
  obtain ⟨v1, v2, v3, v4⟩ := v
  unfold IvC
  rw [ha 28 (by omega) (by omega), ha 29 (by omega) (by omega), ha 31 (by omega) (by omega), h117, e]
  exact ⟨v1, v2, v3, v4.fr ha⟩
theorem IvR.fr (v : IvR I k) (h3 : I' 3 = I 3) (h87 : I' 87 = I 87) (h89 : I' 89 = I 89) (e0 : I' 88 0 = I 88 0) (e6 : I' 88 6 = I 88 6) (e47 : I' 88 47 = I 88 47) : IvR I' (k + 1) := by
  unfold IvR at *
  rw [h3, h87, h89, e0, e6, e47]
  exact ⟨v.1, v.2.1, fun j hj => by have := v.2.2 j hj; omega⟩
theorem IvW.fr (v : IvW h I own) (h83 : I' 83 = I 83) (h85 : I' 85 = I 85) (ht : ∀ b, 118 ≤ b → I' b = I b) : IvW h I' own := by
  rcases v with ⟨v1, v2⟩ | ⟨q, p, s, v1, v2, v3, v4, v5, v6⟩
  · exact Or.inl ⟨v1, by rw [h83, h85]; exact v2⟩
  · exact Or.inr ⟨q, p, s, v1, v2, v3, v4, v5, by rw [h83, h85, ht q v2.1.1, ht p v2.2.1.1]; exact v6⟩
theorem IvN.s (v : IvN h k) (hk : k < 1000) : IvN h (k + 1) := by
  obtain ⟨a, b, c | c⟩ := v
  · exact ⟨by omega, b, Or.inl ⟨c.1, by omega, by omega⟩⟩
  · exact ⟨by omega, b, Or.inr ⟨c.1, by omega, by omega⟩⟩
theorem IvB.fr (v : IvB L xs h I) (h0 : I' 0 = I 0) (h1 : I' 1 = I 1) (h94 : I' 94 = I 94) : IvB L xs h I' := by
  unfold IvB Sc0 at *
  rw [h0, h1, h94]
  exact v
theorem Inv.qt (v : Inv L xs k h I) (hk : k < 1000) (q : Qt I' I) : Inv L xs (k + 1) h I' := by
  obtain ⟨own, v1, v2, v3, v4, v5, v6, v7, v8, v9⟩ := v
  have ht : ∀ b, 118 ≤ b → I' b = I b := fun b hb => q.c (by omega)
  have c := @Qt.c _ _ q
  exact ⟨own, v1.fr (c (by omega)) (c (by omega)) (c (by omega)), v2.fr (fun b b1 b2 => c (by omega)) ht (c (by omega)), ⟨⟨v3.1.1.fr (c (by omega)) (c (by omega)) ht, v3.1.2.fr (c (by omega)) (c (by omega)) ht⟩, v3.2⟩, v4.fr (c (by omega)) (c (by omega)) (c (by omega)) (c (by omega)) (c (by omega)) (c (by omega)) (q.2 13 (by omega)) (q.2 14 (by omega)), v5.fr (c (by omega)) (c (by omega)) (c (by omega)) (by rw [c (by omega)]) (q.2 31 (by omega)), v6.fr (fun b b1 b2 => c (by omega)) (c (by omega)) (q.2 55 (by omega)), v7.fr (c (by omega)) (c (by omega)) (c (by omega)) (q.2 0 (by omega)) (q.2 6 (by omega)) (q.2 47 (by omega)), v8.fr (c (by omega)) (c (by omega)) ht, v9.s hk⟩
end P93
