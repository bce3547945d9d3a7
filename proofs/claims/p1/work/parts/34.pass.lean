/-! The Mover's passing (by program, wip/whole/gen34.py) -/
/-- the LAND at a and its LAW are the same -/
def LdSame (h : IH) (I I' : Nat → Nat → Int) (a : Nat) : Prop := (∀ b, a ≤ b → b ≤ a + 11 → I' b = I b) ∧ ∀ x, lawOf h I a = some x → ∀ b, x ≤ b → b ≤ x + 6 → I' b = I b
theorem LdSame.law {h : IH} {I I' : Nat → Nat → Int} {a : Nat} (hs : LdSame h I I' a) : lawOf h I' a = lawOf h I a := by
  unfold lawOf
  rw [hs.1 a (Nat.le_refl a) (by omega)]
theorem LdSame.lj {h : IH} {I I' : Nat → Nat → Int} {a j : Nat} (hl : LJ h I a j) (hs : LdSame h I I' a) : LJ h I' a j := by
  have h0 := hs.1 a (Nat.le_refl a) (by omega)
  have h1 := hs.1 (a + 1) (by omega) (by omega)
  have h2 := hs.1 (a + 2) (by omega) (by omega)
  refine ⟨hl.1, by rw [h0]; exact hl.2.1, by rw [h0]; exact hl.2.2.1, ?_, hl.2.2.2.2.1, fun b b1 b2 k => by rw [hs.1 b b1 b2]; exact hl.2.2.2.2.2.1 b b1 b2 k, fun s q => by rw [h1, h2]; exact hl.2.2.2.2.2.2 s q⟩
  intro x hx
  rw [hs.law] at hx
  have ht := hs.2 x hx
  obtain ⟨g1, g2⟩ := hl.2.2.2.1 x hx
  rw [ht x (Nat.le_refl _) (by omega)]
  exact ⟨g1.fr ht, g2⟩
theorem LdSame.words {h : IH} {I I' : Nat → Nat → Int} {a : Nat} (hs : LdSame h I I' a) (t s p : Int) : wordsOf I' a t s p = wordsOf I a t s p := by
  funext k
  unfold wordsOf
  rw [hs.1 (a + 3) (by omega) (by omega), hs.1 (a + 4) (by omega) (by omega), hs.1 (a + 5) (by omega) (by omega), hs.1 (a + 6) (by omega) (by omega), hs.1 (a + 8) (by omega) (by omega)]
theorem LdSame.lawE {h : IH} {I I' : Nat → Nat → Int} {a x : Nat} (hs : LdSame h I I' a) (hx : lawOf h I a = some x) (kind t s p : Int) : lawA I' a x kind t s p = lawA I a x kind t s p := by
  have ht := hs.2 x hx
  unfold lawA lawT
  rw [hs.words, lastT_fr ht, ht x (Nat.le_refl _) (by omega)]
theorem LdSame.like {h : IH} {I I' : Nat → Nat → Int} {a : Nat} (hs : LdSame h I I' a) (t s : Int) : likeV I' a (lawOf h I' a) t s = likeV I a (lawOf h I a) t s := by
  unfold likeV
  rw [hs.law]
  cases hx : lawOf h I a with
  | none =>
    dsimp only
    rw [hs.1 (a + 3) (by omega) (by omega)]
  | some x =>
    dsimp only
    rw [hs.lawE hx, hs.1 (a + 2) (by omega) (by omega), hs.1 (a + 3) (by omega) (by omega)]
theorem LdSame.alt {h : IH} {I I' : Nat → Nat → Int} {a : Nat} (hs : LdSame h I I' a) (s : Int) : altV I' a (lawOf h I' a) s = altV I a (lawOf h I a) s := by
  unfold altV
  rw [hs.law]
  cases hx : lawOf h I a with
  | none =>
    dsimp only
    rw [hs.1 (a + 3) (by omega) (by omega)]
  | some x =>
    dsimp only
    rw [hs.1 (a + 2) (by omega) (by omega), hs.lawE hx, hs.1 (a + 3) (by omega) (by omega)]
/-- LAND and LAW lie apart from lo .. hi -/
theorem LdSame.of {h : IH} {I I' : Nat → Nat → Int} {a lo hi : Nat} (hf : Fr I' I lo hi) (hd : a + 11 < lo ∨ hi < a) (hw : LwOk h I lo hi (lawOf h I a)) : LdSame h I I' a :=
  ⟨fun b b1 b2 => hf b (by omega), fun x hx b b1 b2 => hf b (by have := (hw x hx).2; omega)⟩
theorem Fr.wide {A B : Nat → Nat → Int} {lo hi hi2 : Nat} (hf : Fr A B lo hi) (h : hi ≤ hi2) : Fr A B lo hi2 := fun b hb => hf b (by omega)
theorem fr_up {A B : Nat → Nat → Int} {lo hi : Nat} (hf : Fr A B lo hi) {b : Nat} (i : Nat) (x : Int) (hb : b < lo ∨ hi < b) : Fr (up A b i x) (up B b i x) lo hi := by
  intro c hc
  funext k
  unfold up
  rw [hf c hc]
theorem fr_put {A B : Nat → Nat → Int} {lo hi : Nat} (hf : Fr A B lo hi) {b : Nat} (i : Nat) (x : Int) (hb : lo ≤ b ∧ b ≤ hi) : Fr (up A b i x) B lo hi := by
  intro c hc
  rw [up_na (by omega)]
  exact hf c hc
def sumL (f : Nat → Int) : Nat → Int
  | 0 => 0
  | k + 1 => sumL f k + f k
/-- the first c TOWNS have passed; f: what is altered -/
def passI (I : Nat → Nat → Int) (a : Nat) (f : Nat → Int) : Nat → Nat → Nat → Int
  | 0 => I
  | c + 1 => up (up (passI I a f c) (a + 5) (c * 7 + (I (a + 1) c).toNat) (imin (passI I a f c (a + 5) (c * 7 + (I (a + 1) c).toNat) + 1) 99)) (a + 3) c (f c)
theorem passI_na {I : Nat → Nat → Int} {a : Nat} {f : Nat → Int} {b : Nat} (h3 : b ≠ a + 3) (h5 : b ≠ a + 5) : ∀ c, passI I a f c b = I b
  | 0 => rfl
  | c + 1 => by
    unfold passI
    rw [up_na h3, up_na h5, passI_na h3 h5 c]
theorem passI_had {I : Nat → Nat → Int} {a : Nat} {f : Nat → Int} (h : ∀ k, 0 ≤ I (a + 5) k ∧ I (a + 5) k ≤ 99) : ∀ c k, 0 ≤ passI I a f c (a + 5) k ∧ passI I a f c (a + 5) k ≤ 99
  | 0, k => h k
  | c + 1, k => by
    unfold passI
    rw [up_na (show a + 5 ≠ a + 3 by omega), up_at]
    have h1 := passI_had (f := f) h c (c * 7 + (I (a + 1) c).toNat)
    split
    · unfold imin
      split <;> omega
    · exact passI_had h c k
theorem likeV_in {I : Nat → Nat → Int} {a : Nat} (hb : ∀ s, 0 ≤ I (a + 3) s ∧ I (a + 3) s ≤ 9) (w : Option Nat) (t s : Int) : 0 ≤ likeV I a w t s ∧ likeV I a w t s ≤ 99 := by
  have h := hb s.toNat
  unfold likeV
  split
  · omega
  · split
    · omega
    · unfold imax imin
      split <;> split <;> omega
theorem sumL_in {f : Nat → Int} (h : ∀ t, 0 ≤ f t ∧ f t ≤ 99) : ∀ c, 0 ≤ sumL f c ∧ sumL f c ≤ 99 * (c : Int)
  | 0 => by unfold sumL; omega
  | c + 1 => by
    have := sumL_in h c
    have := h c
    unfold sumL
    omega
/-- the SUNDAYS of TOWNS and the TOWNS of SUNDAYS agree -/
def PmOk (I : Nat → Nat → Int) (a : Nat) : Prop := ∀ t : Nat, (t : Int) < I a 0 → (I (a + 1) t < I a 0 ∧ I (a + 2) t < I a 0 ∧ I (a + 2) (I (a + 1) t).toNat = t ∧ I (a + 1) (I (a + 2) t).toNat = t)
section P34
variable {d : Nat} {h : IH} {J I : Nat → Nat → Int} {a v : Nat}
theorem s_pass1 (hv : ShMo h v) (hl : LJ h I a (v + 1)) (hd : a + 11 < v ∨ v + 5 < a) (hw : LwOk h I (v + 1) (v + 5) (lawOf h I a)) (hp : PmOk I a) (hb : ∀ s, 0 ≤ I (a + 3) s ∧ I (a + 3) s ≤ 9) : ∀ (k c n : Nat) (I1 : Nat → Nat → Int), (c : Int) + k = I a 0 → Fr I1 I (v + 1) (v + 5) → (∀ s : Nat, (s : Int) < I a 0 → I (a + 2) s < c → I1 (v + 5) s = altV I a (lawOf h I a) s) →
    ∃ I2, Fr I2 I (v + 1) (v + 5) ∧ (∀ s : Nat, (s : Int) < I a 0 → I2 (v + 5) s = altV I a (lawOf h I a) s) ∧ lp (d + 4) 24 (n + k + 1) 27 [some (iR (some v)), some (iR (some a)), some (iR (lawOf h I a)), some (iI (sumL (fun t => likeV I a (lawOf h I a) t (I (a + 1) t)) c)), some (iI c), none] [] (st h I1 J) = lp (d + 4) 24 n 87 [some (iR (some v)), some (iR (some a)), none, some (iI (sumL (fun t => likeV I a (lawOf h I a) t (I (a + 1) t)) (I a 0).toNat)), some (iI 0), none] [] (st h I2 J) := by
  have lt := La_t hl.1.1
  have lr1 := La_r1 hl.1.1
  have lt1 := La_t1 hl.1.1
  have ll1 := La_l1 hl.1.1
  have jt := Ju_t hl.1.2
  have vt := Mo_t hv
  have vr := Mo_r0 hv
  have vr1 := Mo_r1 hv
  have v3 := Mo_3 hv
  have vt5 := Mo_t5 hv
  have vl5 := Mo_l5 hv
  have hn := hl.2.1
  intro k
  induction k with
  | zero =>
    intro c n I1 hc hf hq
    have e0 : I1 a 0 = I a 0 := by rw [hf a (by omega)]
    refine ⟨I1, hf, fun s hs => hq s hs (by have := (hp s hs).2.1; omega), ?_⟩
    rw [e_Mo_tryPass_27, xB_s, ygI lt, e0, if_neg (by omega)]
    have : (I a 0).toNat = c := by omega
    rw [this]
  | succ k ih =>
    intro c n I1 hc hf hq
    have e0 : I1 a 0 = I a 0 := by rw [hf a (by omega)]
    have e1 : I1 (a + 1) = I (a + 1) := hf (a + 1) (by omega)
    have hcn : (c : Int) < I a 0 := by omega
    have hc7 : 0 ≤ (c : Int) ∧ (c : Int) < 7 := by omega
    have hh := (hl.2.2.2.2.2.2 c (by omega)).1
    obtain ⟨p1, -, p2, -⟩ := hp c hcn
    have hs1 := LdSame.of hf (by omega) hw
    have hl1 := LdSame.lj hl hs1
    obtain ⟨I3, f3, g3⟩ := l_like (d := d) (J := J) hl1 hc7 hh
    rw [hs1.like, hs1.law] at g3
    have hf3 : Fr I3 I (v + 1) (v + 5) := hf.tr (f3.wide (by omega))
    have hs3 := LdSame.of hf3 (by omega) hw
    obtain ⟨I4, f4, g4⟩ := l_alt (d := d) (J := J) (LdSame.lj hl hs3) hh
    rw [hs3.alt] at g4
    have hf4 : Fr I4 I (v + 1) (v + 5) := hf3.tr (f4.wide (by omega))
    have e5 : I4 (v + 5) = I1 (v + 5) := (f4 (v + 5) (by omega)).trans (f3 (v + 5) (by omega))
    have lin := likeV_in hb (lawOf h I a) c (I (a + 1) c)
    have sin := sumL_in (f := fun t => likeV I a (lawOf h I a) t (I (a + 1) t)) (fun t => likeV_in hb _ _ _) c
    obtain ⟨I2, k1, k2, k3⟩ := ih (c + 1) n (up I4 (v + 5) (I (a + 1) c).toNat (altV I a (lawOf h I a) (I (a + 1) c))) (by omega) (fr_put hf4 _ _ (by omega)) (by
      intro s hs hs2
      rw [up_at]
      by_cases q : s = (I (a + 1) c).toNat
      · rw [if_pos q, q, Int.toNat_of_nonneg hh.1]
      · rw [if_neg q, e5]
        refine hq s hs ?_
        have hps := (hp s hs).2.2.2
        have : I (a + 2) s ≠ c := by
          intro z
          rw [z, Int.toNat_natCast] at hps
          omega
        omega)
    refine ⟨I2, k1, k2, ?_⟩
    have hfu : n + (k + 1) + 1 = (n + k + 1) + 1 := by omega
    rw [hfu, e_Mo_tryPass_27, xB_s, ygI lt, e0, if_pos hcn, xB_s, ygR lt lr1, xB_s, yaI lt1 ll1 hc7.1 hc7.2, e1, Int.toNat_natCast, ygR vt vr, xB_s, yck jt, g3, kI_o, ygR vt vr1, ygR vt vr, xB_s, yck jt, g4, kI_o, xB_s, ysI vt5 (by omega) vl5 hh.1 hh.2, wr_id (by omega) (by omega), wr_id (by omega) (by omega)]
    exact k3
end P34
