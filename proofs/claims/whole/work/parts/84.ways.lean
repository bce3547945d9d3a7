/-! The class's Paper: how many ways, which is the most (by program, wip/whole/gen84.py) -/
def popN (u : Nat) : Nat := u % 2 + u / 2 % 2 + u / 4 % 2 + u / 8 % 2 + u / 16 % 2 + u / 32 % 2 + u / 64 % 2
section P84a
theorem bit_ok : ((List.range 128).all fun u => (List.range 7).all fun s => decide (ior (u : Int) (ishl 1 (s : Int)) = ((u ||| 2 ^ s : Nat) : Int)) && (decide ((u ||| 2 ^ s = u) ↔ u.testBit s = true) && (decide (u.testBit s = true) || (decide (popN (u ||| 2 ^ s) = popN u + 1) && decide (u < u ||| 2 ^ s))))) = true := by decide +kernel
theorem mask_ok : ((List.range 8).all fun n => (List.range (2 ^ n)).all fun u => decide (popN u ≤ n) && (decide (popN u < n) || decide (u = 2 ^ n - 1)) && (List.range n).all fun s => decide ((u ||| 2 ^ s) < 2 ^ n)) = true := by decide +kernel
theorem full_ok : ((List.range 8).all fun n => decide (popN (2 ^ n - 1) = n) && decide (wr ((ishl 1 (n : Int)) - 1) = ((2 ^ n - 1 : Nat) : Int))) = true := by decide +kernel
theorem bitI {u s : Nat} (hu : u < 128) (hs : s < 7) : ior (u : Int) (ishl 1 (s : Int)) = ((u ||| 2 ^ s : Nat) : Int) ∧ ((u ||| 2 ^ s = u) ↔ u.testBit s = true) ∧ (u.testBit s = true ∨ (popN (u ||| 2 ^ s) = popN u + 1 ∧ u < u ||| 2 ^ s)) := by
  have h := List.all_eq_true.mp (List.all_eq_true.mp bit_ok u (List.mem_range.mpr hu)) s (List.mem_range.mpr hs)
  simp only [Bool.and_eq_true, Bool.or_eq_true, decide_eq_true_eq] at h
  exact h
theorem maskN {n u : Nat} (hn : n ≤ 7) (hu : u < 2 ^ n) : popN u ≤ n ∧ (popN u < n ∨ u = 2 ^ n - 1) ∧ ∀ s, s < n → u ||| 2 ^ s < 2 ^ n := by
  have h := List.all_eq_true.mp (List.all_eq_true.mp mask_ok n (List.mem_range.mpr (by omega))) u (List.mem_range.mpr hu)
  simp only [Bool.and_eq_true, Bool.or_eq_true, decide_eq_true_eq, List.all_eq_true, List.mem_range] at h
  exact ⟨h.1.1, h.1.2, h.2⟩
theorem fullN {n : Nat} (hn : n ≤ 7) : popN (2 ^ n - 1) = n ∧ wr ((ishl 1 (n : Int)) - 1) = ((2 ^ n - 1 : Nat) : Int) := by
  have h := List.all_eq_true.mp full_ok n (List.mem_range.mpr (by omega))
  simp only [Bool.and_eq_true, decide_eq_true_eq] at h
  exact h
theorem pow_7 {n : Nat} (hn : n ≤ 7) : 1 ≤ 2 ^ n ∧ 2 ^ n ≤ 128 := by
  rcases (show n = 0 ∨ n = 1 ∨ n = 2 ∨ n = 3 ∨ n = 4 ∨ n = 5 ∨ n = 6 ∨ n = 7 by omega) with rfl | rfl | rfl | rfl | rfl | rfl | rfl | rfl <;> decide
def bcI (l0 : Int) : Int := iand (wr ((wr ((iand (wr ((wr ((iand (wr (l0 - (iand (iushr l0 1) 1431655765))) 858993459) + (iand (iushr (wr (l0 - (iand (iushr l0 1) 1431655765))) 2) 858993459))) + (iushr (wr ((iand (wr (l0 - (iand (iushr l0 1) 1431655765))) 858993459) + (iand (iushr (wr (l0 - (iand (iushr l0 1) 1431655765))) 2) 858993459))) 4))) 252645135) + (iushr (iand (wr ((wr ((iand (wr (l0 - (iand (iushr l0 1) 1431655765))) 858993459) + (iand (iushr (wr (l0 - (iand (iushr l0 1) 1431655765))) 2) 858993459))) + (iushr (wr ((iand (wr (l0 - (iand (iushr l0 1) 1431655765))) 858993459) + (iand (iushr (wr (l0 - (iand (iushr l0 1) 1431655765))) 2) 858993459))) 4))) 252645135) 8))) + (iushr (wr ((iand (wr ((wr ((iand (wr (l0 - (iand (iushr l0 1) 1431655765))) 858993459) + (iand (iushr (wr (l0 - (iand (iushr l0 1) 1431655765))) 2) 858993459))) + (iushr (wr ((iand (wr (l0 - (iand (iushr l0 1) 1431655765))) 858993459) + (iand (iushr (wr (l0 - (iand (iushr l0 1) 1431655765))) 2) 858993459))) 4))) 252645135) + (iushr (iand (wr ((wr ((iand (wr (l0 - (iand (iushr l0 1) 1431655765))) 858993459) + (iand (iushr (wr (l0 - (iand (iushr l0 1) 1431655765))) 2) 858993459))) + (iushr (wr ((iand (wr (l0 - (iand (iushr l0 1) 1431655765))) 858993459) + (iand (iushr (wr (l0 - (iand (iushr l0 1) 1431655765))) 2) 858993459))) 4))) 252645135) 8))) 16))) 63
theorem bc_ok : ((List.range 128).all fun u => decide (bcI (u : Int) = ((popN u : Nat) : Int))) = true := by decide +kernel
theorem s_bitCount {d : Nat} (h : IH) {u : Nat} (hu : u < 128) : rn (d + 1) 291 [iI (u : Int)] h = some (oI ((popN u : Nat) : Int), h) := by
  have e := of_decide_eq_true (List.all_eq_true.mp bc_ok u (List.mem_range.mpr hu))
  rw [r_Int_bitCount, e_Int_bitCount, ← e]
  rfl
theorem omx_n (x : Option Int) : omx x none = x := by cases x <;> rfl
theorem omx_as (x y z : Option Int) : omx (omx x y) z = omx x (omx y z) := by
  cases x with
  | none => rfl
  | some x =>
    cases y with
    | none => rfl
    | some y =>
      cases z with
      | none => rfl
      | some z =>
        show some (if (if x < y then y else x) < z then z else (if x < y then y else x)) = some (if x < (if y < z then z else y) then (if y < z then z else y) else x)
        congr 1
        (repeat' split) <;> omega
end P84a
section P84
variable {n : Nat} {ok : Nat → Nat → Bool} {w : Nat → Nat → Int} {d : Nat} {h : IH} {J : Nat → Nat → Int}
theorem sum_le {B : Nat} (f : Nat → Nat) : ∀ l : List Nat, (∀ s ∈ l, f s ≤ B) → (l.map f).sum ≤ l.length * B
  | [], _ => Nat.zero_le _
  | s :: l, h => by
    have h1 := h s List.mem_cons_self
    have h2 := sum_le f l fun x hx => h x (List.mem_cons_of_mem _ hx)
    rw [List.map_cons, List.sum_cons, List.length_cons, Nat.add_mul]
    omega
theorem waysN_le (hn : n ≤ 7) : ∀ (m u : Nat), waysN n ok m u ≤ 7 ^ m
  | 0, _ => Nat.le_refl _
  | m + 1, u => by
    have h := sum_le (B := 7 ^ m) (fun s => if elg ok (n - (m + 1)) u s then waysN n ok m (u ||| 2 ^ s) else 0) (List.range n) fun s _ => by
      try dsimp only
      split
      · exact waysN_le hn m _
      · exact Nat.zero_le _
    rw [List.length_range] at h
    have h2 : n * 7 ^ m ≤ 7 * 7 ^ m := Nat.mul_le_mul_right _ hn
    have e : 7 ^ (m + 1) = 7 * 7 ^ m := by rw [Nat.pow_succ, Nat.mul_comm]
    rw [e]
    exact Nat.le_trans h h2
theorem pow7_le {m : Nat} (hm : m ≤ 7) : 7 ^ m ≤ 823543 := by
  rcases (show m = 0 ∨ m = 1 ∨ m = 2 ∨ m = 3 ∨ m = 4 ∨ m = 5 ∨ m = 6 ∨ m = 7 by omega) with rfl | rfl | rfl | rfl | rfl | rfl | rfl | rfl <;> decide
theorem bestL_in {f : Nat → Option Int} {B : Int} : ∀ {l : List Nat}, (∀ s ∈ l, ∀ x, f s = some x → -B ≤ x ∧ x ≤ B) → ∀ x, bestL f l = some x → -B ≤ x ∧ x ≤ B
  | [], _, x, e => by cases e
  | s :: l, h, x, e => by
    have e2 : omx (f s) (bestL f l) = some x := e
    have h1 := h s List.mem_cons_self
    have h2 := fun y => bestL_in (l := l) (fun z hz => h z (List.mem_cons_of_mem _ hz)) y
    cases e3 : f s with
    | none =>
      rw [e3] at e2
      exact h2 x e2
    | some a =>
      cases e4 : bestL f l with
      | none =>
        rw [e3, e4] at e2
        cases e2
        exact h1 x e3
      | some b =>
        rw [e3, e4] at e2
        cases e2
        have := h1 a e3
        have := h2 b e4
        split <;> omega
theorem bestN_bd (hw : ∀ t s, -1000 ≤ w t s ∧ w t s ≤ 1000) : ∀ (m u : Nat), -(1000 * (m : Int)) ≤ bestN n ok w m u ∧ bestN n ok w m u ≤ 1000 * (m : Int)
  | 0, _ => by
    show -(1000 * ((0 : Nat) : Int)) ≤ 0 ∧ (0 : Int) ≤ 1000 * ((0 : Nat) : Int)
    omega
  | m + 1, u => by
    rw [bestN_s]
    cases e : bestL (thrN n ok w m u) (List.range n) with
    | none =>
      show -(1000 * ((m + 1 : Nat) : Int)) ≤ 0 ∧ (0 : Int) ≤ 1000 * ((m + 1 : Nat) : Int)
      omega
    | some x =>
      have := bestL_in (B := 1000 * ((m + 1 : Nat) : Int)) (fun s _ y hy => by
        unfold thrN at hy
        have h1 := hw (n - (m + 1)) s
        have h2 := bestN_bd hw m (u ||| 2 ^ s)
        split at hy
        · cases hy
          omega
        · cases hy) x e
      exact this
/-- what the row of the most holds -/
def bD (n : Nat) (ok : Nat → Nat → Bool) (w : Nat → Nat → Int) (m u : Nat) : Int := match m with
  | 0 => 0
  | m + 1 => (bestL (thrN n ok w m u) (List.range n)).getD BRK
theorem bD_ok {m u : Nat} (h : waysN n ok m u ≠ 0) : bD n ok w m u = bestN n ok w m u := by
  cases m with
  | zero => rfl
  | succ m =>
    rw [bestN_s]
    show (bestL (thrN n ok w m u) (List.range n)).getD BRK = _
    cases e : bestL (thrN n ok w m u) (List.range n) with
    | none => exact absurd ((best_none n ok w m u _).mp e) h
    | some x => rfl
/-- the rows of worth, of the most, of how many ways, done from the bits u0 on -/
def WtOk (I : Nat → Nat → Int) (n : Nat) (ok : Nat → Nat → Bool) (w : Nat → Nat → Int) : Prop := ∀ t s, t < n → s < n → I 79 (7 * t + s) = if ok t s = true then w t s else BRK
def DpOk (I : Nat → Nat → Int) (n : Nat) (ok : Nat → Nat → Bool) (w : Nat → Nat → Int) (u0 : Nat) : Prop := ∀ v, u0 ≤ v → v < 2 ^ n → I 81 v = ((waysN n ok (n - popN v) v : Nat) : Int) ∧ I 80 v = bD n ok w (n - popN v) v
theorem s_through (s : ShT h) (hn : n ≤ 7) (hw : ∀ t s, -1000 ≤ w t s ∧ w t s ≤ 1000) {I : Nat → Nat → Int} {m u t : Nat} (hW : WtOk I n ok w) (hD : DpOk I n ok w (u + 1)) (hu : u < 2 ^ n) (hm : popN u + (m + 1) = n) (ht : t = popN u) {x : Nat} (hx : x < n) : rn (d + 1) 34 [iR (some 76), iI (u : Int), iI (t : Int), iI (x : Int)] (st h I J) = some (oI ((thrN n ok w m u x).getD BRK), st h I J) := by
  have h7 := pow_7 hn
  obtain ⟨b1, b2, b3⟩ := bitI (u := u) (s := x) (by omega) (by omega)
  have hv := (maskN hn hu).2.2 x hx
  have et : t = n - (m + 1) := by omega
  rw [r_Pa_worthThrough, e_Pa_worthThrough, ygR (aT_76 s) (aR_76_2 s), xB_s, zAI (i := 7 * t + x) (aT_79 s) (aL_79 s) (by rw [wr_id (x := (t : Int) * 7) (by omega) (by omega), wr_id (by omega) (by omega)]; omega) (by omega), b1, hW t x (by omega) hx]
  unfold thrN elg
  by_cases c1 : u.testBit x = true
  · rw [if_pos (by rw [b2.mpr c1]), if_neg (by simp [c1])]
    rfl
  have c1' : u.testBit x = false := by simpa using c1
  rw [if_neg (fun z => c1 (b2.mp (by omega)))]
  by_cases c2 : ok t x = true
  · have hw1 := hw t x
    have b4 := b3.resolve_left c1
    obtain ⟨q1, q2⟩ := hD (u ||| 2 ^ x) (by omega) hv
    rw [b4.1, show n - (popN u + 1) = m by omega] at q1 q2
    rw [if_pos c2, if_neg (by have hb : BRK = -2147483648 := rfl; omega), ygR (aT_76 s) (aR_76_4 s), xB_s, yaN (aT_81 s) (aL_81 s) (by omega), q1]
    by_cases c3 : waysN n ok m (u ||| 2 ^ x) = 0
    · rw [if_pos (by omega), if_neg (by simp [c3])]
      rfl
    · have hb := bestN_bd (n := n) (ok := ok) hw m (u ||| 2 ^ x)
      rw [if_neg (by omega), ygR (aT_76 s) (aR_76_3 s), xB_s, yaN (aT_80 s) (aL_80 s) (by omega), q2, bD_ok c3, ← et, if_pos (by simp [c1', c2, c3]), wr_id (by omega) (by omega)]
      rfl
  · rw [if_neg c2, if_pos rfl, ← et, if_neg (by simp [c2])]
    rfl
theorem ar84 {c x W : Nat} (h : c ≤ x * 117649) (hW : W ≤ 117649) : c + W ≤ (x + 1) * 117649 := by
  rw [Nat.add_mul]
  omega
theorem l_rest (s : ShT h) (hn : n ≤ 7) (hw : ∀ t s, -1000 ≤ w t s ∧ w t s ≤ 1000) {I : Nat → Nat → Int} {m u : Nat} (hW : WtOk I n ok w) (hD : DpOk I n ok w (u + 1)) (hu : u < 2 ^ n) (hm : popN u + (m + 1) = n) : ∀ (k x f c : Nat) (acc : Option Int), x + k = n → (∀ y, acc = some y → -8000 ≤ y ∧ y ≤ 8000) → c ≤ x * 117649 → lp (d + 1) 33 (f + 2 * k + 1) 15 [some (iR (some 76)), some (iI (u : Int)), some (iI (n : Int)), some (iI ((popN u : Nat) : Int)), some (iI (acc.getD BRK)), some (iI (c : Int)), some (iI (x : Int)), none] [] (st h I J) = some (o0, st h (up (up I 80 u ((omx acc (bestL (thrN n ok w m u) (List.range' x k))).getD BRK)) 81 u ((c + sumW n ok m u (List.range' x k) : Nat) : Int)) J) := by
  have h7 := pow_7 hn
  intro k
  induction k with
  | zero =>
    intro x f c acc hk hacc hc
    rw [show f + 2 * 0 + 1 = f + 1 by omega, e_Pa_weighRest_15, if_neg (by omega), ygR (aT_76 s) (aR_76_3 s), xB_s, zSI (i := u) (aT_80 s) (by omega) (aL_80 s) rfl (by omega), ygR (aT_76 s) (aR_76_4 s), xB_s, zSI (i := u) (aT_81 s) (by omega) (aL_81 s) rfl (by omega)]
    show _ = some (o0, st h (up (up I 80 u ((omx acc none).getD BRK)) 81 u ((c + 0 : Nat) : Int)) J)
    rw [omx_n, Nat.add_zero]
  | succ k ih =>
    intro x f c acc hk hacc hc
    have hx : x < n := by omega
    obtain ⟨b1, b2, b3⟩ := bitI (u := u) (s := x) (by omega) (by omega)
    have hv := (maskN hn hu).2.2 x hx
    have er : List.range' x (k + 1) = x :: List.range' (x + 1) k := rfl
    have e1 : sumW n ok m u (List.range' x (k + 1)) = (if elg ok (n - (m + 1)) u x then waysN n ok m (u ||| 2 ^ x) else 0) + sumW n ok m u (List.range' (x + 1) k) := by rw [er, sumW_c]
    have e2 : bestL (thrN n ok w m u) (List.range' x (k + 1)) = omx (thrN n ok w m u x) (bestL (thrN n ok w m u) (List.range' (x + 1) k)) := by rw [er]; rfl
    rw [e1, e2, show f + 2 * (k + 1) + 1 = (f + 2 * k + 1) + 1 + 1 by omega, e_Pa_weighRest_15, if_pos (by omega), yck (aT_76 s), s_through (d := d) s hn hw hW hD hu hm rfl hx, kI_o]
    have wx : wr ((x : Int) + 1) = ((x + 1 : Nat) : Int) := by rw [wr_id (by omega) (by omega)]; rfl
    cases et : thrN n ok w m u x with
    | none =>
      have e0 : (if elg ok (n - (m + 1)) u x then waysN n ok m (u ||| 2 ^ x) else 0) = 0 := by
        unfold thrN at et
        by_cases c1 : elg ok (n - (m + 1)) u x = true
        · rw [if_pos c1]
          by_cases c2 : waysN n ok m (u ||| 2 ^ x) = 0
          · exact c2
          · rw [c1, if_pos (by simp [c2])] at et
            cases et
        · rw [if_neg c1]
      rw [if_pos (show (none : Option Int).getD BRK = -2147483648 from rfl), e_Pa_weighRest_63, wx, e0, Nat.zero_add]
      have := ih (x + 1) f c acc (by omega) hacc (ar84 hc (Nat.zero_le _))
      rw [this]
      rfl
    | some y =>
      have hy : -8000 ≤ y ∧ y ≤ 8000 := by
        unfold thrN at et
        have h1 := hw (n - (m + 1)) x
        have h2 := bestN_bd (n := n) (ok := ok) hw m (u ||| 2 ^ x)
        split at et
        · cases et
          omega
        · cases et
      have e0 : elg ok (n - (m + 1)) u x = true := by
        unfold thrN at et
        by_cases c1 : elg ok (n - (m + 1)) u x = true
        · exact c1
        · rw [if_neg (by simp [c1])] at et
          cases et
      have hnb : ¬ u.testBit x = true := by
        unfold elg at e0
        simp at e0
        rw [e0.2]
        decide
      have b4 := b3.resolve_left hnb
      have q1 := (hD (u ||| 2 ^ x) (by omega) hv).1
      rw [b4.1, show n - (popN u + 1) = m by omega] at q1
      have hle := Nat.le_trans (waysN_le (ok := ok) hn m (u ||| 2 ^ x)) (show 7 ^ m ≤ 117649 by
        rcases (show m = 0 ∨ m = 1 ∨ m = 2 ∨ m = 3 ∨ m = 4 ∨ m = 5 ∨ m = 6 by omega) with rfl | rfl | rfl | rfl | rfl | rfl | rfl <;> decide)
      rw [if_neg (show ¬ ((some y : Option Int).getD BRK = -2147483648) from fun z => by have z2 : y = -2147483648 := z; omega), ygR (aT_76 s) (aR_76_4 s), xB_s, b1, yaN (aT_81 s) (aL_81 s) (by omega), q1, e_Pa_weighRest_63, wx, if_pos e0, wr_id (by omega) (by omega)]
      have em : imax (acc.getD BRK) ((some y : Option Int).getD BRK) = (omx acc (some y)).getD BRK := by
        have hb : BRK = -2147483648 := rfl
        cases acc with
        | none =>
          show imax BRK y = y
          unfold imax
          rw [if_pos (by omega)]
        | some a => rfl
      rw [em]
      have := ih (x + 1) f (c + waysN n ok m (u ||| 2 ^ x)) (omx acc (some y)) (by omega) (fun z hz => by
        cases acc with
        | none =>
          cases hz
          exact hy
        | some a =>
          cases hz
          have := hacc a rfl
          split <;> omega) (ar84 hc hle)
      rw [show (c : Int) + ((waysN n ok m (u ||| 2 ^ x) : Nat) : Int) = ((c + waysN n ok m (u ||| 2 ^ x) : Nat) : Int) by omega, this, omx_as, Nat.add_assoc]
theorem s_rest (s : ShT h) (hn : n ≤ 7) (hw : ∀ t s, -1000 ≤ w t s ∧ w t s ≤ 1000) {I : Nat → Nat → Int} {u : Nat} (hW : WtOk I n ok w) (hD : DpOk I n ok w (u + 1)) (hu : u + 1 < 2 ^ n) : ∃ I', (∀ b, b ≠ 80 → b ≠ 81 → I' b = I b) ∧ rn (d + 2) 33 [iR (some 76), iI (u : Int), iI (n : Int)] (st h I J) = some (o0, st h I' J) ∧ DpOk I' n ok w u := by
  have h7 := pow_7 hn
  have hp := maskN hn (u := u) (by omega)
  have hlt : popN u < n := hp.2.1.resolve_right (by omega)
  obtain ⟨m, hm⟩ : ∃ m, popN u + (m + 1) = n := ⟨n - popN u - 1, by omega⟩
  have hl := l_rest (d := d) (J := J) s hn hw hW hD (by omega) hm n 0 (999998 - 2 * n) 0 none (by omega) (fun y z => by cases z) (by omega)
  rw [show 999998 - 2 * n + 2 * n + 1 = 999999 by omega] at hl
  refine ⟨up (up I 80 u ((omx none (bestL (thrN n ok w m u) (List.range' 0 n))).getD BRK)) 81 u ((0 + sumW n ok m u (List.range' 0 n) : Nat) : Int), fun b b1 b2 => ?_, ?_, fun v v1 v2 => ?_⟩
  rotate_left
  · rw [r_Pa_weighRest, e_Pa_weighRest, s_bitCount _ (by omega), kI_o]
    exact hl
  · by_cases c : v = u
    · subst c
      rw [up_eq, up_na (by omega), up_eq, show n - popN v = m + 1 by omega, waysN_s, List.range_eq_range', Nat.zero_add]
      refine ⟨rfl, ?_⟩
      show (omx none (bestL (thrN n ok w m v) (List.range' 0 n))).getD BRK = (bestL (thrN n ok w m v) (List.range n)).getD BRK
      rw [List.range_eq_range']
      rfl
    · rw [up_ni c, up_na (by omega), up_na (by omega), up_ni c]
      exact hD v (by omega) v2
  · rw [up_na b2, up_na b1]
theorem WtOk.cg {I I' : Nat → Nat → Int} (h : WtOk I n ok w) (e : I' 79 = I 79) : WtOk I' n ok w := fun t s ht hs => by rw [e]; exact h t s ht hs
theorem l_count (s : ShT h) (hn : n ≤ 7) (hw : ∀ t s, -1000 ≤ w t s ∧ w t s ≤ 1000) : ∀ (u f : Nat) (I : Nat → Nat → Int), WtOk I n ok w → DpOk I n ok w u → u < 2 ^ n → ∃ I', (∀ b, b ≠ 80 → b ≠ 81 → I' b = I b) ∧ lp (d + 2) 32 (f + u + 1) 24 [some (iR (some 76)), some (iI (n : Int)), none, some (iI ((u : Int) - 1))] [] (st h I J) = some (oI ((waysN n ok n 0 : Nat) : Int), st h I' J) ∧ DpOk I' n ok w 0 := by
  have h7 := pow_7 hn
  intro u
  induction u with
  | zero =>
    intro f I hW hD hu
    refine ⟨I, fun _ _ _ => rfl, ?_, hD⟩
    have e := (hD 0 (Nat.le_refl _) (by omega)).1
    rw [e_Pa_countWays_24, if_pos (by omega), ygR (aT_76 s) (aR_76_4 s), xB_s, zAI (i := 0) (j := 0) (aT_81 s) (aL_81 s) rfl (by omega), e]
    rfl
  | succ u ih =>
    intro f I hW hD hu
    obtain ⟨I1, a1, a2, a3⟩ := s_rest (d := d) (J := J) s hn hw hW hD hu
    obtain ⟨I2, b1, b2, b3⟩ := ih f I1 (hW.cg (a1 79 (by omega) (by omega))) a3 (by omega)
    refine ⟨I2, fun b q1 q2 => (b1 b q1 q2).trans (a1 b q1 q2), ?_, b3⟩
    rw [show f + (u + 1) + 1 = (f + u + 1) + 1 by omega, e_Pa_countWays_24, if_neg (by omega), yck (aT_76 s), show (((u + 1 : Nat) : Int) - 1) = (u : Int) by omega, a2, kV_o, wr_id (by omega) (by omega)]
    exact b2
theorem s_count (s : ShT h) (hn : n ≤ 7) (hw : ∀ t s, -1000 ≤ w t s ∧ w t s ≤ 1000) {I : Nat → Nat → Int} (hW : WtOk I n ok w) : ∃ I', (∀ b, b ≠ 80 → b ≠ 81 → I' b = I b) ∧ rn (d + 3) 32 [iR (some 76), iI (n : Int)] (st h I J) = some (oI ((waysN n ok n 0 : Nat) : Int), st h I' J) ∧ DpOk I' n ok w 0 := by
  have h7 := pow_7 hn
  obtain ⟨f1, f2⟩ := fullN hn
  obtain ⟨I', a1, a2, a3⟩ := l_count (d := d) (J := J) s hn hw (2 ^ n - 1) (999998 - (2 ^ n - 1)) (up (up I 80 (2 ^ n - 1) 0) 81 (2 ^ n - 1) 1) (hW.cg (by rw [up_na (by omega), up_na (by omega)])) (fun v v1 v2 => by
    have : v = 2 ^ n - 1 := by omega
    subst this
    rw [up_eq, up_na (by omega), up_eq, f1, Nat.sub_self]
    exact ⟨rfl, rfl⟩) (by omega)
  rw [show 999998 - (2 ^ n - 1) + (2 ^ n - 1) + 1 = 999999 by omega] at a2
  refine ⟨I', fun b q1 q2 => by rw [a1 b q1 q2, up_na q2, up_na q1], ?_, a3⟩
  rw [r_Pa_countWays, e_Pa_countWays, f2, ygR (aT_76 s) (aR_76_3 s), xB_s, zSI (i := 2 ^ n - 1) (aT_80 s) (by omega) (aL_80 s) rfl (by omega), ygR (aT_76 s) (aR_76_4 s), xB_s, zSI (i := 2 ^ n - 1) (aT_81 s) (by omega) (aL_81 s) rfl (by omega), wr_id (by omega) (by omega)]
  exact a2
theorem DpOk.up0 {I : Nat → Nat → Int} (h : DpOk I n ok w 0) (u : Nat) : DpOk I n ok w u := fun v _ v2 => h v (Nat.zero_le _) v2
theorem pick_mem {f : Nat → Option Int} : ∀ {l : List Nat}, l ≠ [] → bestL f l = none ∨ ∃ s ∈ l, f s = bestL f l
  | [], h => absurd rfl h
  | s :: l, _ => by
    show omx (f s) (bestL f l) = none ∨ _
    cases e1 : f s with
    | none =>
      by_cases hl : l = []
      · subst hl
        exact Or.inl rfl
      · rcases pick_mem (f := f) hl with z | ⟨x, x1, x2⟩
        · exact Or.inl z
        · refine Or.inr ⟨x, List.mem_cons_of_mem _ x1, ?_⟩
          show f x = omx (f s) (bestL f l)
          rw [e1, x2]
          rfl
    | some a =>
      refine Or.inr ?_
      show ∃ x ∈ s :: l, f x = omx (f s) (bestL f l)
      cases e2 : bestL f l with
      | none => exact ⟨s, List.mem_cons_self, by rw [e1]; rfl⟩
      | some b =>
        by_cases c : a < b
        · have hl : l ≠ [] := fun z => by subst z; cases e2
          rcases pick_mem (f := f) hl with z | ⟨x, x1, x2⟩
          · rw [z] at e2; cases e2
          · refine ⟨x, List.mem_cons_of_mem _ x1, ?_⟩
            rw [x2, e1, e2]
            show some b = some (if a < b then b else a)
            rw [if_pos c]
        · refine ⟨s, List.mem_cons_self, ?_⟩
          rw [e1]
          show some a = some (if a < b then b else a)
          rw [if_neg c]
theorem getD_eq {x y : Option Int} (hx : ∀ z, x = some z → z ≠ BRK) (hy : ∀ z, y = some z → z ≠ BRK) : x.getD BRK = y.getD BRK ↔ x = y := by
  cases x with
  | none =>
    cases y with
    | none => exact ⟨fun _ => rfl, fun _ => rfl⟩
    | some b => exact ⟨fun z => absurd z.symm (hy b rfl), fun z => by cases z⟩
  | some a =>
    cases y with
    | none => exact ⟨fun z => absurd z (hx a rfl), fun z => by cases z⟩
    | some b => exact ⟨fun z => congrArg some z, fun z => by cases z; rfl⟩
theorem thrN_bd (hw : ∀ t s, -1000 ≤ w t s ∧ w t s ≤ 1000) {m u x : Nat} (hm : m ≤ 7) {y : Int} (e : thrN n ok w m u x = some y) : -8000 ≤ y ∧ y ≤ 8000 := by
  unfold thrN at e
  have h1 := hw (n - (m + 1)) x
  have h2 := bestN_bd (n := n) (ok := ok) hw m (u ||| 2 ^ x)
  split at e
  · cases e
    omega
  · cases e
theorem l_first (s : ShT h) (hn : n ≤ 7) (hw : ∀ t s, -1000 ≤ w t s ∧ w t s ≤ 1000) {I : Nat → Nat → Int} {m u : Nat} (hW : WtOk I n ok w) (hD : DpOk I n ok w 0) (hu : u < 2 ^ n) (hm : popN u + (m + 1) = n) : ∀ (k x f : Nat), x + (k + 1) = n → (∃ y, x ≤ y ∧ y < n ∧ thrN n ok w m u y = bestL (thrN n ok w m u) (List.range n)) → lp (d + 1) 36 (f + k + 1) 3 [some (iR (some 76)), some (iI (u : Int)), some (iI ((popN u : Nat) : Int)), some (iI (n : Int)), some (iI (x : Int))] [] (st h I J) = some (oI ((pickL (thrN n ok w m u) (bestL (thrN n ok w m u) (List.range n)) (List.range' x (k + 1)) : Nat) : Int), st h I J) := by
  have h7 := pow_7 hn
  intro k
  induction k with
  | zero =>
    intro x f hk hy
    obtain ⟨y, y1, y2, y3⟩ := hy
    have : y = x := by omega
    subst this
    have e : pickL (thrN n ok w m u) (bestL (thrN n ok w m u) (List.range n)) (List.range' y 1) = y := if_pos y3
    rw [e, Nat.add_zero, e_Pa_firstOfBest_3, wr_id (by omega) (by omega), if_neg (by omega)]
  | succ k ih =>
    intro x f hk hy
    have e0 := (hD u (Nat.zero_le _) hu).2
    rw [show n - popN u = m + 1 by omega] at e0
    have e1 : bD n ok w (m + 1) u = (bestL (thrN n ok w m u) (List.range n)).getD BRK := rfl
    have hg : ((thrN n ok w m u x).getD BRK = (bestL (thrN n ok w m u) (List.range n)).getD BRK) ↔ thrN n ok w m u x = bestL (thrN n ok w m u) (List.range n) := getD_eq (fun z hz => by
      have := thrN_bd (n := n) (ok := ok) hw (by omega) hz
      have hb : BRK = -2147483648 := rfl
      omega) (fun z hz => by
      have := bestL_in (B := 8000) (fun q _ y hy => thrN_bd (n := n) (ok := ok) hw (by omega) hy) z hz
      have hb : BRK = -2147483648 := rfl
      omega)
    rw [show f + (k + 1) + 1 = (f + k + 1) + 1 by omega, e_Pa_firstOfBest_3, wr_id (by omega) (by omega), if_pos (by omega), yck (aT_76 s), s_through (d := d) s hn hw hW (hD.up0 _) hu hm rfl (by omega), kI_o, ygR (aT_76 s) (aR_76_3 s), xB_s, yaN (aT_80 s) (aL_80 s) (by omega), e0, e1]
    by_cases c : thrN n ok w m u x = bestL (thrN n ok w m u) (List.range n)
    · have e : pickL (thrN n ok w m u) (bestL (thrN n ok w m u) (List.range n)) (List.range' x (k + 1 + 1)) = x := if_pos c
      rw [e, if_pos (hg.mpr c)]
    · have e : pickL (thrN n ok w m u) (bestL (thrN n ok w m u) (List.range n)) (List.range' x (k + 1 + 1)) = pickL (thrN n ok w m u) (bestL (thrN n ok w m u) (List.range n)) (List.range' (x + 1) (k + 1)) := if_neg c
      rw [e, if_neg (fun z => c (hg.mp z)), wr_id (by omega) (by omega)]
      obtain ⟨y, y1, y2, y3⟩ := hy
      refine ih (x + 1) f (by omega) ⟨y, ?_, y2, y3⟩
      have : y ≠ x := fun z => c (z ▸ y3)
      omega
theorem pickL_lt {f : Nat → Option Int} {b : Option Int} : ∀ {l : List Nat}, (∃ s ∈ l, f s = b) → pickL f b l ∈ l ∧ f (pickL f b l) = b
  | [], h => by
    obtain ⟨s, h1, _⟩ := h
    exact absurd h1 List.not_mem_nil
  | s :: l, h => by
    show (if f s = b then s else pickL f b l) ∈ s :: l ∧ f (if f s = b then s else pickL f b l) = b
    by_cases c : f s = b
    · rw [if_pos c]
      exact ⟨List.mem_cons_self, c⟩
    · rw [if_neg c]
      obtain ⟨x, x1, x2⟩ := h
      have := pickL_lt (f := f) (b := b) (l := l) ⟨x, (List.mem_cons.mp x1).resolve_left fun z => c (z ▸ x2), x2⟩
      exact ⟨List.mem_cons_of_mem _ this.1, this.2⟩
/-- where there is a way, the pick is one -/
theorem pickN_ok {m u : Nat} (hways : waysN n ok (m + 1) u ≠ 0) (hn : 0 < n) : pickN n ok w m u < n ∧ thrN n ok w m u (pickN n ok w m u) ≠ none ∧ thrN n ok w m u (pickN n ok w m u) = bestL (thrN n ok w m u) (List.range n) := by
  have hne : bestL (thrN n ok w m u) (List.range n) ≠ none := fun z => hways ((best_none n ok w m u _).mp z)
  have hl : List.range n ≠ [] := by
    intro z
    have := congrArg List.length z
    rw [List.length_range] at this
    exact absurd this (by show ¬ (n = 0); omega)
  have hp := pickL_lt (f := thrN n ok w m u) (b := bestL (thrN n ok w m u) (List.range n)) ((pick_mem (f := thrN n ok w m u) hl).resolve_left hne)
  exact ⟨List.mem_range.mp hp.1, fun z => hne (hp.2.symm.trans z), hp.2⟩
theorem fillN_lt : ∀ {m : Nat} {u : Nat} {row : Nat → Int} {i : Nat}, m ≤ n → i < n - m → fillN n ok w m u row i = row i
  | 0, _, _, _, _, _ => rfl
  | m + 1, u, row, i, hm, hi => by
    show fillN n ok w m (u ||| 2 ^ (pickN n ok w m u)) (updR row (n - (m + 1)) (pickN n ok w m u)) i = row i
    rw [fillN_lt (by omega) (by omega)]
    exact if_neg (by omega)
theorem l_arr (s : ShT h) (hn : n ≤ 7) (hw : ∀ t s, -1000 ≤ w t s ∧ w t s ≤ 1000) {I : Nat → Nat → Int} (hW : WtOk I n ok w) (hD : DpOk I n ok w 0) {i : Nat} (hi : i < n) : ∀ (m u f : Nat) (last : Int) (row : Nat → Int), u < 2 ^ n → popN u + m = n → waysN n ok m u ≠ 0 → (n - m ≤ i → lp (d + 2) 35 (f + m + 1) 32 [some (iR (some 76)), some (iI (n : Int)), some (iI (i : Int)), some (iI (u : Int)), some (iI last), some (iI ((n - m : Nat) : Int))] [] (st h I J) = some (oI (fillN n ok w m u row i), st h I J)) ∧ (i < n - m → lp (d + 2) 35 (f + m + 1) 32 [some (iR (some 76)), some (iI (n : Int)), some (iI (i : Int)), some (iI (u : Int)), some (iI last), some (iI ((n - m : Nat) : Int))] [] (st h I J) = some (oI last, st h I J)) := by
  have h7 := pow_7 hn
  intro m
  induction m with
  | zero =>
    intro u f last row hu hm hways
    refine ⟨fun z => by omega, fun z => ?_⟩
    rw [Nat.add_zero, e_Pa_arranged_32, if_neg (by omega)]
  | succ m ih =>
    intro u f last row hu hm hways
    refine ⟨fun z => ?_, fun z => by rw [show f + (m + 1) + 1 = (f + m + 1) + 1 by omega, e_Pa_arranged_32, if_neg (by omega)]⟩
    obtain ⟨p1, p2, p3⟩ := pickN_ok (w := w) hways (by omega)
    have hel : elg ok (n - (m + 1)) u (pickN n ok w m u) = true ∧ waysN n ok m (u ||| 2 ^ pickN n ok w m u) ≠ 0 := by
      unfold thrN at p2
      by_cases c : (elg ok (n - (m + 1)) u (pickN n ok w m u) && decide (waysN n ok m (u ||| 2 ^ pickN n ok w m u) ≠ 0)) = true
      · simpa using c
      · rw [if_neg c] at p2
        exact absurd rfl p2
    have hnb : ¬ u.testBit (pickN n ok w m u) = true := by
      have := hel.1
      unfold elg at this
      simp at this
      rw [this.2]
      decide
    obtain ⟨b1, b2, b3⟩ := bitI (u := u) (s := pickN n ok w m u) (by omega) (by omega)
    have b4 := b3.resolve_left hnb
    have hv := (maskN hn hu).2.2 _ p1
    have hf := l_first (d := d) (J := J) s hn hw hW hD hu hm (n - 1) 0 (999998 - (n - 1)) (by omega) ⟨_, Nat.zero_le _, p1, p3⟩
    rw [show 999998 - (n - 1) + (n - 1) + 1 = 999999 by omega, show n - 1 + 1 = n by omega] at hf
    have hpk : pickL (thrN n ok w m u) (bestL (thrN n ok w m u) (List.range n)) (List.range' 0 n) = pickN n ok w m u := by
      unfold pickN
      rw [← List.range_eq_range']
    rw [hpk] at hf
    have ep : ((n - (m + 1) : Nat) : Int) = ((popN u : Nat) : Int) := by omega
    rw [show f + (m + 1) + 1 = (f + m + 1) + 1 by omega, e_Pa_arranged_32, if_pos (by omega), if_pos (by omega), yck (aT_76 s), ep, r_Pa_firstOfBest, e_Pa_firstOfBest]
    have hf' : lp (d + 1) 36 999999 3 [some (iR (some 76)), some (iI (u : Int)), some (iI ((popN u : Nat) : Int)), some (iI (n : Int)), some (iI 0)] [] (st h I J) = _ := hf
    rw [hf', kI_o, b1, wr_id (by omega) (by omega)]
    have ih' := ih (u ||| 2 ^ pickN n ok w m u) f ((pickN n ok w m u : Nat) : Int) (updR row (n - (m + 1)) (pickN n ok w m u)) hv (by omega) hel.2
    rw [show ((popN u : Nat) : Int) + 1 = ((n - m : Nat) : Int) by omega]
    by_cases c : n - m ≤ i
    · exact ih'.1 c
    · rw [ih'.2 (by omega)]
      show _ = some (oI (fillN n ok w m (u ||| 2 ^ pickN n ok w m u) (updR row (n - (m + 1)) (pickN n ok w m u)) i), st h I J)
      rw [fillN_lt (by omega) (by omega)]
      unfold updR
      rw [if_pos (by omega)]
/-- the arrangement of most worth -/
theorem s_arranged (s : ShT h) (hn : n ≤ 7) (hw : ∀ t s, -1000 ≤ w t s ∧ w t s ≤ 1000) {I : Nat → Nat → Int} (hW : WtOk I n ok w) {i : Int} (hi : i = -1 ∨ (0 ≤ i ∧ i < (n : Int))) : ∃ I', (∀ b, b ≠ 80 → b ≠ 81 → I' b = I b) ∧ rn (d + 4) 35 [iR (some 76), iI (n : Int), iI i] (st h I J) = some (oI (if waysN n ok n 0 = 0 then BRK else if i = -1 then bestN n ok w n 0 else fillN n ok w n 0 (fun _ => -1) i.toNat), st h I' J) := by
  have h7 := pow_7 hn
  obtain ⟨I', a1, a2, a3⟩ := s_count (d := d) (J := J) s hn hw hW
  refine ⟨I', a1, ?_⟩
  rw [r_Pa_arranged, e_Pa_arranged, yck (aT_76 s), a2, kI_o]
  by_cases c : waysN n ok n 0 = 0
  · rw [if_pos (by omega), if_pos c]
  · rw [if_neg (by omega), if_neg c]
    by_cases c2 : i = -1
    · have e := (a3 0 (Nat.le_refl _) (by omega)).2
      rw [if_pos c2, if_pos c2, ygR (aT_76 s) (aR_76_3 s), xB_s, zAI (i := 0) (j := 0) (aT_80 s) (aL_80 s) rfl (by omega), e, show n - popN 0 = n from rfl, bD_ok c]
    · rw [if_neg c2, if_neg c2]
      have := (l_arr (d := d + 1) (J := J) s hn hw (hW.cg (a1 79 (by omega) (by omega))) a3 (i := i.toNat) (by omega) n 0 (999998 - n) (-2147483648) (fun _ => -1) (by omega) (by show 0 + n = n; omega) c).1 (by omega)
      rw [show 999998 - n + n + 1 = 999999 by omega, show ((i.toNat : Nat) : Int) = i by omega, show ((n - n : Nat) : Int) = 0 by omega] at this
      exact this
end P84
