/-! All rows gone through, the reference (by program, wip/whole/gen85.py) -/
def sumR (w : Nat → Nat → Int) (row : Nat → Int) : Nat → Int
  | 0 => 0
  | t + 1 => sumR w row t + w t (row t).toNat
def btB : Nat → Nat
  | 0 => 1
  | m + 1 => (m + 1) * (1 + btB m) + 1
def frc (u : Nat) : Nat → Nat → Nat
  | _, 0 => 0
  | s, k + 1 => (if u.testBit s then 0 else 1) + frc u (s + 1) k
theorem frc_ok : ((List.range 8).all fun n => (List.range (2 ^ n)).all fun u => decide (frc u 0 n = n - popN u)) = true := by decide +kernel
/-- the first Sunday from s on, of k, that can be taken -/
def fnd (ok : Nat → Nat → Bool) (t u : Nat) : Nat → Nat → Option Nat
  | _, 0 => none
  | s, k + 1 => if elg ok t u s = true then some s else fnd ok t u (s + 1) k
theorem fnd_s {ok : Nat → Nat → Bool} {t u x : Nat} : ∀ (k s : Nat), fnd ok t u s k = some x → (s ≤ x ∧ x < s + k) ∧ elg ok t u x = true ∧ (∀ (F : Acc → Nat → Acc) (acc : Acc), (List.range' s k).foldl (fun a s => if elg ok t u s then F a s else a) acc = (List.range' (x + 1) (s + k - (x + 1))).foldl (fun a s => if elg ok t u s then F a s else a) (F acc x)) ∧ 1 + frc u (x + 1) (s + k - (x + 1)) ≤ frc u s k
  | 0, s, h => by cases h
  | k + 1, s, h => by
    have er : List.range' s (k + 1) = s :: List.range' (s + 1) k := rfl
    by_cases c : elg ok t u s = true
    · have e : some s = some x := by
        rw [← h]
        exact (if_pos c).symm
      have es : x = s := (Option.some.inj e).symm
      rw [es]
      refine ⟨⟨Nat.le_refl _, by omega⟩, c, fun F acc => ?_, ?_⟩
      · rw [er, List.foldl_cons, if_pos c, show s + (k + 1) - (s + 1) = k by omega]
      · have hb : u.testBit s = false := by
          unfold elg at c
          simp at c
          exact c.2
        show 1 + frc u (s + 1) (s + (k + 1) - (s + 1)) ≤ (if u.testBit s then 0 else 1) + frc u (s + 1) k
        rw [hb, if_neg (by decide), show s + (k + 1) - (s + 1) = k by omega]
        exact Nat.le_refl _
    · have e : fnd ok t u (s + 1) k = some x := by
        rw [← h]
        exact (if_neg c).symm
      obtain ⟨a1, a2, a3, a4⟩ := fnd_s k (s + 1) e
      refine ⟨⟨by omega, by omega⟩, a2, fun F acc => ?_, ?_⟩
      · rw [er, List.foldl_cons, if_neg c, a3, show s + 1 + k - (x + 1) = s + (k + 1) - (x + 1) by omega]
      · show 1 + frc u (x + 1) (s + (k + 1) - (x + 1)) ≤ (if u.testBit s then 0 else 1) + frc u (s + 1) k
        rw [show s + (k + 1) - (x + 1) = s + 1 + k - (x + 1) by omega]
        exact Nat.le_trans a4 (Nat.le_add_left _ _)
theorem fnd_n {ok : Nat → Nat → Bool} {t u : Nat} : ∀ (k s : Nat), fnd ok t u s k = none → ∀ (F : Acc → Nat → Acc) (acc : Acc), (List.range' s k).foldl (fun a s => if elg ok t u s then F a s else a) acc = acc
  | 0, s, _, _, _ => rfl
  | k + 1, s, h, F, acc => by
    have er : List.range' s (k + 1) = s :: List.range' (s + 1) k := rfl
    by_cases c : elg ok t u s = true
    · have e : some s = none := by
        rw [← h]
        exact (if_pos c).symm
      cases e
    · have e : fnd ok t u (s + 1) k = none := by
        rw [← h]
        exact (if_neg c).symm
      rw [er, List.foldl_cons, if_neg c]
      exact fnd_n k (s + 1) e F acc
theorem resN_c (σ : Int) (acc : Acc) (c : Nat) (b : Int) (r : Nat → Int) : (resN σ acc c b r).2.1 = acc.2.1 + c := by
  unfold resN
  by_cases h : c = 0
  · rw [if_pos h, h]
    rfl
  · rw [if_neg h]
    split <;> rfl
/-- what each town could have and what it is worth, the reference -/
def WmOk (I : Nat → Nat → Int) (n : Nat) (ok : Nat → Nat → Bool) (w : Nat → Nat → Int) : Prop := ∀ t s, t < n → s < n → I 107 (7 * t + s) = (if ok t s = true then 1 else 0) ∧ I 106 (7 * t + s) = w t s
/-- where the going through stands -/
def BtOk (I : Nat → Nat → Int) (n : Nat) (row : Nat → Int) (t : Nat) (acc : Acc) : Prop := (∀ k, k < t → I 104 k = row k) ∧ I 88 37 = acc.1 ∧ I 88 38 = (acc.2.1 : Nat) ∧ ∀ k, k < n → I 105 k = acc.2.2 k
/-- the bits u are those of the first t of the row -/
def UrOk (n u : Nat) (row : Nat → Int) (t : Nat) : Prop := (∀ k, k < t → 0 ≤ row k ∧ row k < (n : Int)) ∧ ∀ s, s < n → (u.testBit s = true ↔ ∃ k, k < t ∧ row k = (s : Int))
theorem UrOk.next {n u t x : Nat} {row : Nat → Int} (h : UrOk n u row t) (hx : x < n) : UrOk n (u ||| 2 ^ x) (updR row t x) (t + 1) := by
  refine ⟨fun k hk => ?_, fun s hs => ?_⟩
  · unfold updR
    by_cases c : k = t
    · rw [if_pos c]
      omega
    · rw [if_neg c]
      exact h.1 k (by omega)
  · rw [Nat.testBit_or, Bool.or_eq_true, h.2 s hs, Nat.testBit_two_pow]
    unfold updR
    constructor
    · rintro (⟨k, k1, k2⟩ | q)
      · exact ⟨k, by omega, by rw [if_neg (by omega)]; exact k2⟩
      · have : x = s := by simpa using q
        exact ⟨t, by omega, by rw [if_pos rfl, this]⟩
    · rintro ⟨k, k1, k2⟩
      by_cases c : k = t
      · rw [if_pos c] at k2
        exact Or.inr (by simp; omega)
      · rw [if_neg c] at k2
        exact Or.inl ⟨k, by omega, k2⟩
theorem sumR_u {w : Nat → Nat → Int} {row : Nat → Int} {x : Nat} : ∀ (t k : Nat), k ≤ t → sumR w (updR row t x) k = sumR w row k
  | _, 0, _ => rfl
  | t, k + 1, h => by
    show sumR w (updR row t x) k + w k (updR row t x k).toNat = sumR w row k + w k (row k).toNat
    rw [sumR_u t k (by omega), show updR row t x k = row k from if_neg (by omega)]
theorem sumR_bd {w : Nat → Nat → Int} {row : Nat → Int} (hw : ∀ t s, -1000 ≤ w t s ∧ w t s ≤ 1000) : ∀ k : Nat, -(1000 * (k : Int)) ≤ sumR w row k ∧ sumR w row k ≤ 1000 * (k : Int)
  | 0 => by
    show -(1000 * ((0 : Nat) : Int)) ≤ 0 ∧ (0 : Int) ≤ 1000 * ((0 : Nat) : Int)
    omega
  | k + 1 => by
    have h1 := sumR_bd (row := row) hw k
    have h2 := hw k (row k).toNat
    show -(1000 * ((k + 1 : Nat) : Int)) ≤ sumR w row k + w k (row k).toNat ∧ sumR w row k + w k (row k).toNat ≤ 1000 * ((k + 1 : Nat) : Int)
    omega
def GtFr (I' I : Nat → Nat → Int) : Prop := (∀ b, b ≠ 88 → b ≠ 104 → b ≠ 105 → I' b = I b) ∧ ∀ i, i ≠ 37 → i ≠ 38 → I' 88 i = I 88 i
theorem GtFr.rf (I : Nat → Nat → Int) : GtFr I I := ⟨fun _ _ _ _ => rfl, fun _ _ _ => rfl⟩
theorem GtFr.tr {A B C : Nat → Nat → Int} (h1 : GtFr A B) (h2 : GtFr B C) : GtFr A C := ⟨fun b q1 q2 q3 => (h1.1 b q1 q2 q3).trans (h2.1 b q1 q2 q3), fun i q1 q2 => (h1.2 i q1 q2).trans (h2.2 i q1 q2)⟩
theorem GtFr.r4 (I : Nat → Nat → Int) (i : Nat) (x : Int) : GtFr (up I 104 i x) I := ⟨fun b _ q2 _ => up_na q2, fun i _ _ => by rw [up_na (by omega)]⟩
theorem GtFr.r5 (I : Nat → Nat → Int) (i : Nat) (x : Int) : GtFr (up I 105 i x) I := ⟨fun b _ _ q3 => up_na q3, fun i _ _ => by rw [up_na (by omega)]⟩
theorem GtFr.f (I : Nat → Nat → Int) {i : Nat} (x : Int) (hi : i = 37 ∨ i = 38) : GtFr (up I 88 i x) I := ⟨fun b q1 _ _ => up_na q1, fun j _ _ => up_ni (by omega)⟩
section P85
variable {n : Nat} {ok : Nat → Nat → Bool} {w : Nat → Nat → Int} {d : Nat} {h : IH} {J : Nat → Nat → Int}
theorem WmOk.fr {I I' : Nat → Nat → Int} (hW : WmOk I n ok w) (f : GtFr I' I) : WmOk I' n ok w := fun t s ht hs => by
  rw [f.1 107 (by omega) (by omega) (by omega), f.1 106 (by omega) (by omega) (by omega)]
  exact hW t s ht hs
/-- the inner row: whether a Sunday is in none of the first places -/
theorem l_31 (s : ShM h 88) {t x : Nat} (ht : t ≤ 7) (hx : x < 7) {I : Nat → Nat → Int} : ∀ (k j f : Nat) (is : Int), j + k = t → (is = 0 ∨ is = 1) → lp (d + 1) 251 (f + k + 1) 31 [some (iR (some 88)), some (iI (t : Int)), some (iI (x : Int)), some (iI is), some (iI (j : Int))] [] (st h I J) = @ite _ (is = 1 ∧ ∀ q, j ≤ q → q < t → I 104 q ≠ (x : Int)) (Classical.propDecidable _) (some (oI (x : Int), st h I J)) (lp (d + 1) 251 f 9 [some (iR (some 88)), some (iI (t : Int)), some (iI ((x + 1 : Nat) : Int)), none, none] [] (st h I J)) := by
  intro k
  induction k with
  | zero =>
    intro j f is hk his
    rw [Nat.add_zero, e_M_nextFor_31, if_neg (by omega)]
    by_cases c : is = 0
    · rw [if_pos c, if_neg (fun z => by omega), wr_id (by omega) (by omega)]
      rfl
    · rw [if_neg c, if_pos ⟨by omega, fun q q1 q2 => by omega⟩]
  | succ k ih =>
    intro j f is hk his
    rw [show f + (k + 1) + 1 = (f + k + 1) + 1 by omega, e_M_nextFor_31, if_pos (by omega), wr_id (by omega) (by omega)]
    by_cases c : is = 0
    · have := ih (j + 1) f 0 (by omega) (Or.inl rfl)
      rw [if_neg (fun z => absurd z.1 (by decide))] at this
      rw [if_pos c, if_neg (fun z => by omega)]
      exact this
    · rw [if_neg c, ygR (bT_88 s) (bR_33 s), xB_s, yaN (bT_104 s) (bL_104 s) (by omega)]
      by_cases c2 : I 104 j = (x : Int)
      · have := ih (j + 1) f 0 (by omega) (Or.inl rfl)
        rw [if_neg (fun z => absurd z.1 (by decide))] at this
        rw [if_pos c2, if_neg (fun z => z.2 j (Nat.le_refl _) (by omega) c2)]
        exact this
      · have := ih (j + 1) f 1 (by omega) (Or.inr rfl)
        rw [if_neg c2]
        have e : ((1 : Int) = 1 ∧ ∀ q : Nat, j + 1 ≤ q → q < t → I 104 q ≠ (x : Int)) ↔ (is = 1 ∧ ∀ q, j ≤ q → q < t → I 104 q ≠ (x : Int)) := by
          constructor
          · intro z
            refine ⟨by omega, fun q q1 q2 => ?_⟩
            by_cases y : q = j
            · rw [y]; exact c2
            · exact z.2 q (by omega) q2
          · intro z
            exact ⟨rfl, fun q q1 q2 => z.2 q (by omega) q2⟩
        by_cases y : is = 1 ∧ ∀ q, j ≤ q → q < t → I 104 q ≠ (x : Int)
        · rw [if_pos (e.mpr y)] at this
          rw [if_pos y]
          exact this
        · rw [if_neg (fun z => y (e.mp z))] at this
          rw [if_neg y]
          exact this
theorem l_next (s : ShM h 88) (hn : n ≤ 7) {I : Nat → Nat → Int} (e183 : I 90 183 = (n : Int)) {t u : Nat} (ht : t < n) {row : Nat → Int} (hW : WmOk I n ok w) (hB : ∀ k, k < t → I 104 k = row k) (hU : UrOk n u row t) : ∀ (k x f : Nat), x + k = n → lp (d + 1) 251 (f + 10 * k + 1) 9 [some (iR (some 88)), some (iI (t : Int)), some (iI (x : Int)), none, none] [] (st h I J) = some (oI (match fnd ok t u x k with
    | none => -1
    | some y => (y : Int)), st h I J) := by
  intro k
  induction k with
  | zero =>
    intro x f hk
    rw [show f + 10 * 0 + 1 = f + 1 by omega, e_M_nextFor_9, yck (bT_88 s), s_townMany s, kI_o, show I (88 + 2) 183 = (n : Int) from e183, if_neg (by omega)]
    rfl
  | succ k ih =>
    intro x f hk
    have hx : x < n := by omega
    have hw := (hW t x ht hx).1
    rw [show f + 10 * (k + 1) + 1 = ((f + 10 * k + 1) + (8 - t) + t + 1) + 1 by omega, e_M_nextFor_9, yck (bT_88 s), s_townMany s, kI_o, show I (88 + 2) 183 = (n : Int) from e183, if_pos (by omega), ygR (bT_88 s) (bR_36 s), s_pairAt (d := d) _ (by omega) (by omega), kI_o, xB_s]
    have hb : ∀ K : Int → Option IR, xaB (st h I J) 107 (7 * (t : Int) + (x : Int)) K = K (I 107 (7 * t + x)) := fun K => by
      rw [yaB (Or.inr (bT_107 s)) (bL_107 s) (by omega) (by omega), show (7 * (t : Int) + (x : Int)).toNat = 7 * t + x by omega]
    rw [hb, hw]
    have hq : (∀ q, 0 ≤ q → q < t → I 104 q ≠ (x : Int)) ↔ ¬ u.testBit x = true := by
      rw [hU.2 x hx]
      constructor
      · rintro z ⟨q, q1, q2⟩
        exact z q (Nat.zero_le _) q1 (by rw [hB q q1]; exact q2)
      · intro z q _ q1 q2
        exact z ⟨q, q1, by rw [← hB q q1]; exact q2⟩
    by_cases c : ok t x = true
    · rw [if_pos c]
      have := l_31 (d := d) (J := J) (I := I) s (t := t) (x := x) (by omega) (by omega) t 0 ((f + 10 * k + 1) + (8 - t)) 1 (by omega) (Or.inr rfl)
      have this' : lp (d + 1) 251 (f + 10 * k + 1 + (8 - t) + t + 1) 31 [some (iR (some 88)), some (iI (t : Int)), some (iI (x : Int)), some (iI 1), some (iI 0)] [] (st h I J) = _ := this
      rw [this']
      by_cases c2 : u.testBit x = true
      · have e : fnd ok t u x (k + 1) = fnd ok t u (x + 1) k := if_neg (by unfold elg; simp [c2])
        rw [if_neg (fun z => hq.mp z.2 c2), e, show f + 10 * k + 1 + (8 - t) = (f + (8 - t)) + 10 * k + 1 by omega]
        exact ih (x + 1) (f + (8 - t)) (by omega)
      · have e : fnd ok t u x (k + 1) = some x := if_pos (by unfold elg; simp [c, c2])
        rw [if_pos ⟨rfl, hq.mpr c2⟩, e]
    · rw [if_neg c]
      have := l_31 (d := d) (J := J) (I := I) s (t := t) (x := x) (by omega) (by omega) t 0 ((f + 10 * k + 1) + (8 - t)) 0 (by omega) (Or.inl rfl)
      rw [if_neg (fun z => absurd z.1 (by decide))] at this
      have this' : lp (d + 1) 251 (f + 10 * k + 1 + (8 - t) + t + 1) 31 [some (iR (some 88)), some (iI (t : Int)), some (iI (x : Int)), some (iI 0), some (iI 0)] [] (st h I J) = _ := this
      have e : fnd ok t u x (k + 1) = fnd ok t u (x + 1) k := if_neg (by unfold elg; simp [c])
      rw [this', e, show f + 10 * k + 1 + (8 - t) = (f + (8 - t)) + 10 * k + 1 by omega]
      exact ih (x + 1) (f + (8 - t)) (by omega)
theorem l_w4 (s : ShM h 88) (hn : n ≤ 7) (hw : ∀ t s, -1000 ≤ w t s ∧ w t s ≤ 1000) {I : Nat → Nat → Int} (e183 : I 90 183 = (n : Int)) {row : Nat → Int} (hW : WmOk I n ok w) (hB : ∀ k, k < n → I 104 k = row k) (hr : ∀ k, k < n → 0 ≤ row k ∧ row k < (n : Int)) : ∀ (k j f : Nat), j + k = n → lp (d + 1) 252 (f + k + 1) 4 [some (iR (some 88)), some (iI (sumR w row j)), some (iI (j : Int))] [] (st h I J) = lp (d + 1) 252 (f + 1) 4 [some (iR (some 88)), some (iI (sumR w row n)), some (iI (n : Int))] [] (st h I J) := by
  intro k
  induction k with
  | zero =>
    intro j f hk
    rw [show j = n by omega]
  | succ k ih =>
    intro j f hk
    have hj : j < n := by omega
    have h1 := hr j hj
    have h2 := (hW j (row j).toNat hj (by omega)).2
    have h3 := sumR_bd (row := row) hw j
    have h4 := hw j (row j).toNat
    rw [show f + (k + 1) + 1 = (f + k + 1) + 1 by omega, e_M_weighsRow_4, yck (bT_88 s), s_townMany s, kI_o, show I (88 + 2) 183 = (n : Int) from e183, if_pos (by omega), ygR (bT_88 s) (bR_35 s), ygR (bT_88 s) (bR_33 s), xB_s, yaN (bT_104 s) (bL_104 s) (by omega), hB j hj, s_pairAt (d := d) _ (by omega) (by omega), kI_o, xB_s, zAI (i := 7 * j + (row j).toNat) (bT_106 s) (bL_106 s) (by omega) (by omega), h2, wr_id (by omega) (by omega), wr_id (by omega) (by omega)]
    exact ih (j + 1) f (by omega)
theorem l_w62 (s : ShM h 88) (hn : n ≤ 7) : ∀ (k j f : Nat) (I : Nat → Nat → Int), j + k = n → I 90 183 = (n : Int) → ∃ I', (∀ b, b ≠ 105 → I' b = I b) ∧ (∀ q, j ≤ q → q < n → I' 105 q = I 104 q) ∧ (∀ q, q < j → I' 105 q = I 105 q) ∧ lp (d + 1) 252 (f + k + 1) 62 [some (iR (some 88)), none, some (iI (j : Int))] [] (st h I J) = some (o0, st h I' J) := by
  intro k
  induction k with
  | zero =>
    intro j f I hk e183
    refine ⟨I, fun _ _ => rfl, fun q q1 q2 => by omega, fun _ _ => rfl, ?_⟩
    rw [Nat.add_zero, e_M_weighsRow_62, yck (bT_88 s), s_townMany s, kI_o, show I (88 + 2) 183 = (n : Int) from e183, if_neg (by omega)]
  | succ k ih =>
    intro j f I hk e183
    obtain ⟨I', a1, a2, a3, a4⟩ := ih (j + 1) f (up I 105 j (I 104 j)) (by omega) (by rw [up_na (by omega)]; exact e183)
    refine ⟨I', fun b hb => (a1 b hb).trans (up_na hb), fun q q1 q2 => ?_, fun q q1 => ?_, ?_⟩
    · by_cases c : q = j
      · rw [c, a3 j (by omega), up_eq]
      · rw [a2 q (by omega) q2, up_na (by omega)]
    · rw [a3 q (by omega), up_ni (by omega)]
    · rw [show f + (k + 1) + 1 = (f + k + 1) + 1 by omega, e_M_weighsRow_62, yck (bT_88 s), s_townMany s, kI_o, show I (88 + 2) 183 = (n : Int) from e183, if_pos (by omega), ygR (bT_88 s) (bR_34 s), ygR (bT_88 s) (bR_33 s), xB_s, yaN (bT_104 s) (bL_104 s) (by omega), xB_s, ysN (bT_105 s) (by omega) (bL_105 s) (by omega), wr_id (by omega) (by omega)]
      exact a4
theorem s_weighs (s : ShM h 88) (hn : n ≤ 7) (hw : ∀ t s, -1000 ≤ w t s ∧ w t s ≤ 1000) {I : Nat → Nat → Int} (e183 : I 90 183 = (n : Int)) {row : Nat → Int} {acc : Acc} (hW : WmOk I n ok w) (hB : BtOk I n row n acc) (hr : ∀ k, k < n → 0 ≤ row k ∧ row k < (n : Int)) (hc : acc.2.1 < 1000000) (u : Nat) : ∃ I', GtFr I' I ∧ I' 104 = I 104 ∧ rn (d + 2) 252 [iR (some 88)] (st h I J) = some (o0, st h I' J) ∧ BtOk I' n row n (goN n ok w 0 u row (sumR w row n) acc) := by
  obtain ⟨b1, b2, b3, b4⟩ := hB
  have hl := l_w4 (d := d) (J := J) s hn hw e183 hW b1 hr n 0 (999998 - n) (by omega)
  rw [show 999998 - n + n + 1 = 999999 by omega] at hl
  have hl' : lp (d + 1) 252 999999 4 [some (iR (some 88)), some (iI 0), some (iI 0)] [] (st h I J) = _ := hl
  show ∃ I', GtFr I' I ∧ I' 104 = I 104 ∧ rn (d + 2) 252 [iR (some 88)] (st h I J) = some (o0, st h I' J) ∧ BtOk I' n row n (if sumR w row n ≤ acc.1 then (acc.1, acc.2.1 + 1, acc.2.2) else (sumR w row n, acc.2.1 + 1, row))
  rw [r_M_weighsRow, e_M_weighsRow, hl', e_M_weighsRow_4, yck (bT_88 s), s_townMany s, kI_o, show I (88 + 2) 183 = (n : Int) from e183, if_neg (by omega), ygI (bT_88 s), b3, ypI (bT_88 s) (by omega), ygI (bT_88 s), up_ni (by omega), b2, wr_id (by omega) (by omega)]
  by_cases c : sumR w row n ≤ acc.1
  · refine ⟨_, GtFr.f I _ (Or.inr rfl), up_na (by omega), by rw [if_pos c], ?_⟩
    rw [if_pos c]
    exact ⟨fun k hk => by rw [up_na (by omega)]; exact b1 k hk, by rw [up_ni (by omega)]; exact b2, by rw [up_eq]; rfl, fun k hk => by rw [up_na (by omega)]; exact b4 k hk⟩
  · obtain ⟨I', a1, a2, a3, a4⟩ := l_w62 (d := d) (J := J) s hn n 0 (999997 - 2 * n) (up (up I 88 38 ((acc.2.1 : Nat) + 1)) 88 37 (sumR w row n)) (by omega) (by rw [up_na (by omega), up_na (by omega)]; exact e183)
    have f1 : GtFr (up (up I 88 38 ((acc.2.1 : Nat) + 1)) 88 37 (sumR w row n)) I := (GtFr.f _ _ (Or.inl rfl)).tr (GtFr.f I _ (Or.inr rfl))
    refine ⟨I', GtFr.tr ⟨fun b _ _ q3 => a1 b q3, fun i _ _ => by rw [a1 88 (by omega)]⟩ f1, by rw [a1 104 (by omega), up_na (by omega), up_na (by omega)], ?_, ?_⟩
    · rw [show 999997 - 2 * n + n + 1 = 999998 - n by omega] at a4
      rw [if_neg c, ypI (bT_88 s) (by omega)]
      exact a4
    · rw [if_neg c]
      exact ⟨fun k hk => by rw [a1 104 (by omega), up_na (by omega), up_na (by omega)]; exact b1 k hk, by rw [a1 88 (by omega), up_eq], by rw [a1 88 (by omega), up_ni (by omega), up_eq]; rfl, fun k hk => by rw [a2 k (Nat.zero_le _) hk, up_na (by omega), up_na (by omega)]; exact b1 k hk⟩
theorem fnd_w {m u x : Nat} : ∀ (k y : Nat), fnd ok (n - (m + 1)) u y k = some x → sumW n ok m u (List.range' y k) = waysN n ok m (u ||| 2 ^ x) + sumW n ok m u (List.range' (x + 1) (y + k - (x + 1)))
  | 0, y, e => by cases e
  | k + 1, y, e => by
    have er : List.range' y (k + 1) = y :: List.range' (y + 1) k := rfl
    rw [er, sumW_c]
    by_cases c : elg ok (n - (m + 1)) u y = true
    · have e2 : some y = some x := by
        rw [← e]
        exact (if_pos c).symm
      have es : x = y := (Option.some.inj e2).symm
      rw [es]
      rw [if_pos c, show y + (k + 1) - (y + 1) = k by omega]
    · have e2 : fnd ok (n - (m + 1)) u (y + 1) k = some x := by
        rw [← e]
        exact (if_neg c).symm
      rw [if_neg c, Nat.zero_add, fnd_w k (y + 1) e2, show y + 1 + k - (x + 1) = y + (k + 1) - (x + 1) by omega]
theorem s_nextFor (s : ShM h 88) (hn : n ≤ 7) {I : Nat → Nat → Int} (e183 : I 90 183 = (n : Int)) {t u : Nat} (ht : t < n) {row : Nat → Int} (hW : WmOk I n ok w) (hB : ∀ k, k < t → I 104 k = row k) (hU : UrOk n u row t) {y k : Nat} (hk : y + k = n) (e : I 104 t = (y : Int) - 1) : rn (d + 2) 251 [iR (some 88), iI (t : Int)] (st h I J) = some (oI (match fnd ok t u y k with
    | none => -1
    | some x => (x : Int)), st h I J) := by
  have := l_next (d := d) (J := J) s hn e183 ht hW hB hU k y (999998 - 10 * k) hk
  rw [show 999998 - 10 * k + 10 * k + 1 = 999999 by omega] at this
  rw [r_M_nextFor, e_M_nextFor, ygR (bT_88 s) (bR_33 s), xB_s, yaN (bT_104 s) (bL_104 s) (by omega), e, show wr ((y : Int) - 1 + 1) = (y : Int) by rw [wr_id (by omega) (by omega)]; omega]
  exact this
theorem bt_run (s : ShM h 88) (hn : n ≤ 7) (hw : ∀ t s, -1000 ≤ w t s ∧ w t s ≤ 1000) : ∀ (m u : Nat) (row : Nat → Int) (acc : Acc) (I : Nat → Nat → Int), m ≤ n → I 90 183 = (n : Int) → WmOk I n ok w → u < 2 ^ n → popN u + m = n → UrOk n u row (n - m) → BtOk I n row (n - m) acc → (∀ k, n - m ≤ k → k < n → I 104 k = -1) → acc.2.1 + waysN n ok m u ≤ 999999 → ∀ f, ∃ (f' : Nat) (I' : Nat → Nat → Int), f ≤ f' ∧ GtFr I' I ∧ BtOk I' n row (n - m) (goN n ok w m u row (sumR w row (n - m)) acc) ∧ (∀ k, n - m ≤ k → k < n → I' 104 k = -1) ∧ lp (d + 2) 250 (f + btB m) 37 [some (iR (some 88)), some (iI ((n - m : Nat) : Int)), none] [] (st h I J) = lp (d + 2) 250 f' 37 [some (iR (some 88)), some (iI (((n - m : Nat) : Int) - 1)), none] [] (st h I' J) := by
  intro m
  induction m with
  | zero =>
    intro u row acc I hm e183 hW hu hp hU hB hT hc f
    have hw0 : waysN n ok 0 u = 1 := rfl
    rw [Nat.sub_zero] at hU hB ⊢
    obtain ⟨I', a1, a2, a3, a4⟩ := s_weighs (d := d) (J := J) s hn hw e183 hW hB hU.1 (by omega) u
    refine ⟨f, I', Nat.le_refl _, a1, a4, fun k k1 k2 => by omega, ?_⟩
    show lp (d + 2) 250 (f + 1) 37 _ _ _ = _
    rw [e_M_goesThrough_37, if_neg (by omega), yck (bT_88 s), s_townMany (d := d + 1) s, kI_o, show I (88 + 2) 183 = (n : Int) from e183, if_pos rfl, yck (bT_88 s), a3, kV_o, wr_id (by omega) (by omega)]
    rfl
  | succ m ih =>
    intro u row acc I hm e183 hW hu hp hU hB hT hc f
    obtain ⟨t, ht⟩ : ∃ t, n - (m + 1) = t := ⟨_, rfl⟩
    have htn : t < n := by omega
    have ht1 : n - m = t + 1 := by omega
    rw [ht] at hU hB hT
    have key : ∀ (k y : Nat) (acc : Acc) (I : Nat → Nat → Int) (f : Nat), y + k = n → I 90 183 = (n : Int) → WmOk I n ok w → BtOk I n row t acc → I 104 t = (y : Int) - 1 → (∀ q, t < q → q < n → I 104 q = -1) → acc.2.1 + sumW n ok m u (List.range' y k) ≤ 999999 → ∃ (f' : Nat) (I' : Nat → Nat → Int), f ≤ f' ∧ GtFr I' I ∧ BtOk I' n row t ((List.range' y k).foldl (fun a x => if elg ok t u x then goN n ok w m (u ||| 2 ^ x) (updR row t x) (sumR w row t + w t x) a else a) acc) ∧ (∀ q, t ≤ q → q < n → I' 104 q = -1) ∧ lp (d + 2) 250 (f + (1 + btB m) * frc u y k + 1) 37 [some (iR (some 88)), some (iI (t : Int)), none] [] (st h I J) = lp (d + 2) 250 f' 37 [some (iR (some 88)), some (iI ((t : Int) - 1)), none] [] (st h I' J) := by
      intro k
      induction k using Nat.strongRecOn with
      | ind k ihk =>
        intro y acc I f hk e183 hW hB hy hT hc
        have hnx := s_nextFor (d := d) (J := J) s hn e183 htn hW hB.1 hU hk hy
        have hd : lp (d + 2) 250 (f + (1 + btB m) * frc u y k + 1) 37 [some (iR (some 88)), some (iI (t : Int)), none] [] (st h I J) = (if (match fnd ok t u y k with
            | none => (-1 : Int)
            | some x => (x : Int)) = -1 then lp (d + 2) 250 (f + (1 + btB m) * frc u y k) 37 [some (iR (some 88)), some (iI ((t : Int) - 1)), none] [] (st h (up I 104 t (match fnd ok t u y k with
            | none => (-1 : Int)
            | some x => (x : Int))) J) else lp (d + 2) 250 (f + (1 + btB m) * frc u y k) 37 [some (iR (some 88)), some (iI ((t + 1 : Nat) : Int)), none] [] (st h (up I 104 t (match fnd ok t u y k with
            | none => (-1 : Int)
            | some x => (x : Int))) J)) := by
          rw [e_M_goesThrough_37, if_neg (by omega), yck (bT_88 s), s_townMany (d := d + 1) s, kI_o, show I (88 + 2) 183 = (n : Int) from e183, if_neg (by omega), ygR (bT_88 s) (bR_33 s), yck (bT_88 s), hnx, kI_o, xB_s, ysN (bT_104 s) (by omega) (bL_104 s) (by omega), ygR (bT_88 s) (bR_33 s), xB_s, yaN (bT_104 s) (bL_104 s) (by omega), up_eq, wr_id (x := (t : Int) + (-1)) (by omega) (by omega), wr_id (x := (t : Int) + 1) (by omega) (by omega)]
          rfl
        rw [hd]
        cases ef : fnd ok t u y k with
        | none =>
          refine ⟨f + (1 + btB m) * frc u y k, up I 104 t (-1), Nat.le_add_right _ _, GtFr.r4 _ _ _, ?_, fun q q1 q2 => ?_, if_pos rfl⟩
          · rw [fnd_n k y ef]
            obtain ⟨b1, b2, b3, b4⟩ := hB
            exact ⟨fun q hq => by rw [up_ni (by omega)]; exact b1 q hq, by rw [up_na (by omega)]; exact b2, by rw [up_na (by omega)]; exact b3, fun q hq => by rw [up_na (by omega)]; exact b4 q hq⟩
          · by_cases c : q = t
            · rw [c, up_eq]
            · rw [up_ni c]
              exact hT q (by omega) q2
        | some x =>
          obtain ⟨⟨x1, x2⟩, x3, x4, x5⟩ := fnd_s k y ef
          have xw := fnd_w (n := n) (ok := ok) (m := m) k y (by rw [ht]; exact ef)
          have hxn : x < n := by omega
          have hxb : ¬ u.testBit x = true := by
            unfold elg at x3
            simp at x3
            rw [x3.2]
            decide
          have b3 := (bitI (u := u) (s := x) (by have := (pow_7 hn).2; omega) (by omega)).2.2.resolve_left hxb
          have hv := (maskN hn hu).2.2 x hxn
          obtain ⟨q1, q2, q3, q4⟩ := hB
          have hm1 : (1 + btB m) * (1 + frc u (x + 1) (y + k - (x + 1))) ≤ (1 + btB m) * frc u y k := Nat.mul_le_mul_left _ x5
          rw [Nat.mul_add, Nat.mul_one] at hm1
          obtain ⟨ex, hex⟩ : ∃ ex, (1 + btB m) * frc u y k = (1 + btB m) + (1 + btB m) * frc u (x + 1) (y + k - (x + 1)) + ex := ⟨_, (Nat.add_sub_of_le hm1).symm⟩
          obtain ⟨f1, I1, c1, c2, c3, c4, c5⟩ := ih (u ||| 2 ^ x) (updR row t x) acc (up I 104 t (x : Int)) (by omega) (by rw [up_na (by omega)]; exact e183) (hW.fr (GtFr.r4 _ _ _)) hv (by omega) (by rw [ht1]; exact hU.next hxn) (by
            rw [ht1]
            refine ⟨fun q hq => ?_, by rw [up_na (by omega)]; exact q2, by rw [up_na (by omega)]; exact q3, fun q hq => by rw [up_na (by omega)]; exact q4 q hq⟩
            by_cases z : q = t
            · rw [z, up_eq]
              exact (if_pos rfl).symm
            · rw [up_ni z, q1 q (by omega)]
              exact (if_neg z).symm) (fun q z1 z2 => by rw [up_ni (by omega)]; exact hT q (by omega) z2) (by omega) (f + ex + (1 + btB m) * frc u (x + 1) (y + k - (x + 1)) + 1)
          rw [ht1] at c3 c4 c5
          have es : sumR w (updR row t x) (t + 1) = sumR w row t + w t x := by
            show sumR w (updR row t x) t + w t (updR row t x t).toNat = _
            rw [sumR_u t t (Nat.le_refl _), show updR row t x t = (x : Int) from if_pos rfl, Int.toNat_natCast]
          rw [es] at c3
          obtain ⟨r1, r2, r3, r4⟩ := c3
          have ecnt : (goN n ok w m (u ||| 2 ^ x) (updR row t x) (sumR w row t + w t x) acc).2.1 = acc.2.1 + waysN n ok m (u ||| 2 ^ x) := by rw [goN_ok, resN_c]
          obtain ⟨f3, rfl⟩ : ∃ f3, f1 = f3 + (1 + btB m) * frc u (x + 1) (y + k - (x + 1)) + 1 := ⟨f1 - ((1 + btB m) * frc u (x + 1) (y + k - (x + 1)) + 1), by omega⟩
          obtain ⟨f', I', g1, g2, g3, g4, g5⟩ := ihk (y + k - (x + 1)) (by omega) (x + 1) (goN n ok w m (u ||| 2 ^ x) (updR row t x) (sumR w row t + w t x) acc) I1 f3 (by omega) (by rw [c2.1 90 (by omega) (by omega) (by omega), up_na (by omega)]; exact e183) ((hW.fr (GtFr.r4 _ _ _)).fr c2) ⟨fun q hq => by
            rw [r1 q (by omega)]
            exact if_neg (by omega), r2, r3, r4⟩ (by
            rw [r1 t (by omega)]
            have : updR row t x t = (x : Int) := if_pos rfl
            rw [this]
            omega) (fun q z1 z2 => c4 q (by omega) z2) (by rw [ecnt]; omega)
          refine ⟨f', I', by omega, (g2.tr c2).tr (GtFr.r4 _ _ _), ?_, g4, ?_⟩
          · rw [x4 (fun a x => goN n ok w m (u ||| 2 ^ x) (updR row t x) (sumR w row t + w t x) a) acc]
            exact g3
          · have ne : ¬ ((x : Int) = -1) := by omega
            show (if (x : Int) = -1 then _ else lp (d + 2) 250 (f + (1 + btB m) * frc u y k) 37 [some (iR (some 88)), some (iI ((t + 1 : Nat) : Int)), none] [] (st h (up I 104 t (x : Int)) J)) = _
            rw [if_neg ne, ← g5, show f + (1 + btB m) * frc u y k = f + ex + (1 + btB m) * frc u (x + 1) (y + k - (x + 1)) + 1 + btB m by omega, c5, show (((t + 1 : Nat) : Int) - 1) = (t : Int) by omega]
    have hfr := of_decide_eq_true (List.all_eq_true.mp (List.all_eq_true.mp frc_ok n (List.mem_range.mpr (by omega))) u (List.mem_range.mpr hu))
    obtain ⟨f', I', g1, g2, g3, g4, g5⟩ := key n 0 acc I f (by omega) e183 hW hB (by rw [hT t (Nat.le_refl _) htn]; rfl) (fun q z1 z2 => hT q (by omega) z2) (by rw [← List.range_eq_range', ← waysN_s]; exact hc)
    rw [ht]
    refine ⟨f', I', g1, g2, ?_, g4, ?_⟩
    · have e : goN n ok w (m + 1) u row (sumR w row t) acc = (List.range n).foldl (fun a x => if elg ok (n - (m + 1)) u x then goN n ok w m (u ||| 2 ^ x) (updR row (n - (m + 1)) x) (sumR w row t + w (n - (m + 1)) x) a else a) acc := rfl
      rw [e, ht, List.range_eq_range']
      exact g3
    · have e : btB (m + 1) = (1 + btB m) * frc u 0 n + 1 := by
        rw [hfr, show n - popN u = m + 1 by omega, Nat.mul_comm]
        rfl
      rw [e, ← Nat.add_assoc]
      exact g5
theorem l_gt16 (s : ShM h 88) (hn : n ≤ 7) {a1 : Int} : ∀ (k j f : Nat) (I : Nat → Nat → Int), j + k = n → I 90 183 = (n : Int) → ∃ I', (∀ b, b ≠ 104 → I' b = I b) ∧ (∀ q, j ≤ q → q < n → I' 104 q = -1) ∧ (∀ q, q < j → I' 104 q = I 104 q) ∧ lp (d + 1) 250 (f + k + 1) 16 [some (iR (some 88)), some (iI a1), some (iI (j : Int))] [] (st h I J) = lp (d + 1) 250 f 37 [some (iR (some 88)), some (iI a1), none] [] (st h I' J) := by
  intro k
  induction k with
  | zero =>
    intro j f I hk e183
    refine ⟨I, fun _ _ => rfl, fun q q1 q2 => by omega, fun _ _ => rfl, ?_⟩
    rw [Nat.add_zero, e_M_goesThrough_16, yck (bT_88 s), s_townMany s, kI_o, show I (88 + 2) 183 = (n : Int) from e183, if_neg (by omega)]
  | succ k ih =>
    intro j f I hk e183
    obtain ⟨I', a1, a2, a3, a4⟩ := ih (j + 1) f (up I 104 j (-1)) (by omega) (by rw [up_na (by omega)]; exact e183)
    refine ⟨I', fun b hb => (a1 b hb).trans (up_na hb), fun q q1 q2 => ?_, fun q q1 => ?_, ?_⟩
    · by_cases c : q = j
      · rw [c, a3 j (by omega), up_eq]
      · exact a2 q (by omega) q2
    · rw [a3 q (by omega), up_ni (by omega)]
    · rw [show f + (k + 1) + 1 = (f + k + 1) + 1 by omega, e_M_goesThrough_16, yck (bT_88 s), s_townMany s, kI_o, show I (88 + 2) 183 = (n : Int) from e183, if_pos (by omega), ygR (bT_88 s) (bR_33 s), xB_s, ysN (bT_104 s) (by omega) (bL_104 s) (by omega), wr_id (by omega) (by omega)]
      exact a4
/-- all rows gone through: the most, how many, the first of the most -/
theorem s_through_m (s : ShM h 88) (hn : n ≤ 7) (hw : ∀ t s, -1000 ≤ w t s ∧ w t s ≤ 1000) {I : Nat → Nat → Int} (e183 : I 90 183 = (n : Int)) (hW : WmOk I n ok w) : ∃ I', GtFr I' I ∧ rn (d + 3) 250 [iR (some 88)] (st h I J) = some (o0, st h I' J) ∧ I' 88 38 = ((waysN n ok n 0 : Nat) : Int) ∧ (waysN n ok n 0 ≠ 0 → I' 88 37 = bestN n ok w n 0 ∧ ∀ k, k < n → I' 105 k = fillN n ok w n 0 (fun _ => -1) k) := by
  have h7 := pow_7 hn
  have hb7 : btB n ≤ 27399 := by
    rcases (show n = 0 ∨ n = 1 ∨ n = 2 ∨ n = 3 ∨ n = 4 ∨ n = 5 ∨ n = 6 ∨ n = 7 by omega) with rfl | rfl | rfl | rfl | rfl | rfl | rfl | rfl <;> decide
  have hwl := Nat.le_trans (waysN_le (ok := ok) hn n 0) (pow7_le hn)
  obtain ⟨I1, a1, a2, a3, a4⟩ := l_gt16 (d := d + 1) (J := J) (a1 := 0) s hn n 0 (999998 - n) (up (up I 88 37 (-1000000)) 88 38 0) (by omega) (by rw [up_na (by omega), up_na (by omega)]; exact e183)
  have f1 : GtFr I1 I := GtFr.tr ⟨fun b _ q2 _ => a1 b q2, fun i _ _ => by rw [a1 88 (by omega)]⟩ ((GtFr.f _ _ (Or.inr rfl)).tr (GtFr.f I _ (Or.inl rfl)))
  obtain ⟨f', I2, b1, b2, b3, b4, b5⟩ := bt_run (d := d) (J := J) s hn hw n 0 (fun _ => -1) (-1000000, 0, I1 105) I1 (Nat.le_refl _) (by rw [f1.1 90 (by omega) (by omega) (by omega)]; exact e183) (hW.fr f1) (by omega) (by show 0 + n = n; omega) ⟨fun k hk => by omega, fun q hq => ⟨fun z => (by rw [Nat.zero_testBit] at z; cases z), fun ⟨k, k1, _⟩ => by omega⟩⟩ ⟨fun k hk => by omega, by rw [a1 88 (by omega), up_ni (by omega), up_eq], by rw [a1 88 (by omega), up_eq]; rfl, fun _ _ => rfl⟩ (fun k k1 k2 => a2 k (by omega) k2) (by show 0 + waysN n ok n 0 ≤ 999999; omega) (999998 - n - btB n - 1 + 1)
  rw [show 999998 - n - btB n - 1 + 1 + btB n = 999998 - n by omega, Nat.sub_self] at b5
  have e0 : sumR w (fun _ => -1) (n - n) = 0 := by rw [Nat.sub_self]; rfl
  rw [e0, goN_ok] at b3
  obtain ⟨r1, r2, r3, r4⟩ := b3
  rw [resN_c] at r3
  obtain ⟨f'', rfl⟩ : ∃ q, f' = q + 1 := ⟨f' - 1, by omega⟩
  refine ⟨I2, b2.tr f1, ?_, by rw [r3, Nat.zero_add], fun hc => ?_⟩
  · rw [show 999998 - n + n + 1 = 999999 by omega] at a4
    have a4' : lp (d + 1 + 1) 250 999999 16 [some (iR (some 88)), some (iI 0), some (iI 0)] [] (st h (up (up I 88 37 (-1000000)) 88 38 0) J) = _ := a4
    have b5' : lp (d + 2) 250 (999998 - n) 37 [some (iR (some 88)), some (iI 0), none] [] (st h I1 J) = _ := b5
    rw [r_M_goesThrough, e_M_goesThrough, ypI (bT_88 s) (by omega), ypI (bT_88 s) (by omega), a4', b5', e_M_goesThrough_37, if_pos (by omega)]
  · have hb := bestN_bd (n := n) (ok := ok) hw n 0
    have er : resN 0 ((-1000000, 0, I1 105) : Acc) (waysN n ok n 0) (bestN n ok w n 0) (fillN n ok w n 0 (fun _ => -1)) = (0 + bestN n ok w n 0, 0 + waysN n ok n 0, fillN n ok w n 0 (fun _ => -1)) := by
      unfold resN
      rw [if_neg hc, if_neg (show ¬ (0 + bestN n ok w n 0 ≤ ((-1000000, 0, I1 105) : Acc).1) by show ¬ (0 + bestN n ok w n 0 ≤ -1000000); omega)]
    rw [er] at r2 r4
    exact ⟨by rw [r2, Int.zero_add], r4⟩
end P85
