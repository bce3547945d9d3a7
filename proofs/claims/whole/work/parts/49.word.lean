/-! The class's reader: words, tokens (by program, wip/whole/gen49.py) -/
theorem xW_2 (k : Option IR) : xW (some 2) k = k := if_pos rfl
/-- the word from f up to t, looked for from the place p of all words on -/
def wuL (B : Nat → Int) (f t : Nat) : Nat → Nat → Int → Nat → Bool → Int
  | 0, _, _, _, _ => 1002
  | k + 1, p, w, i, s => if p < 135 then
      if wdL.getD p 0 = 32 then (if s = true then (if i = t then w else wuL B f t k (p + 1) (w + 1) f true) else wuL B f t k (p + 1) (w + 1) f true)
      else wuL B f t k (p + 1) w (i + 1) (s && decide (i < t ∧ B i = wdL.getD p 0))
    else 1002
/-- the bytes from f up to t are those of the word at s, n long -/
abbrev eqW (B : Nat → Int) (f t s n : Nat) : Prop := t = f + n ∧ ∀ j, j < n → B (f + j) = wdL.getD (s + j) 0
/-- the first of words that it is -/
def wordL (B : Nat → Int) (f t : Nat) : List (Nat × Nat) → Int → Int
  | [], _ => 1002
  | (s, n) :: l, w => if eqW B f t s n then w else wordL B f t l (w + 1)
def wordTb : List (Nat × Nat) := [(0, 4), (5, 6), (12, 5), (18, 4), (23, 3), (27, 3), (31, 5), (37, 4), (42, 4), (47, 4), (52, 6), (59, 4), (64, 3), (68, 5), (74, 6), (81, 4), (86, 4), (91, 5), (97, 4), (102, 4), (107, 4), (112, 2), (115, 5), (121, 2), (124, 2), (127, 3), (131, 3)]
def b2i (s : Bool) : Int := if s = true then 1 else 0
section P49
variable {d : Nat} {h : IH} {I J : Nat → Nat → Int}
theorem l_word (s : ShT h) (rb : hR h 43 2 = some 42) {f t : Nat} (hf : I 43 6 = f) (ht : t ≤ 400) (hf2 : f ≤ 400) : ∀ (k p : Nat) (w : Int) (i : Nat) (sm : Bool) (n : Nat), p + k = 136 → 1 ≤ k → i ≤ f + p → 256 ≤ w ∧ w ≤ 256 + p → lp d 55 (n + k) 15 [some (iR (some 43)), some (iI t), some (iI w), some (iI i), some (iI (b2i sm)), some (iI p), none] [] (st h I J) = some (oI (wuL (I 42) f t k p w i sm), st h I J) := by
  intro k
  induction k with
  | zero => intro p w i sm n hk h1; omega
  | succ k ih =>
    intro p w i sm n hk h1 hi hw
    unfold wuL
    rw [show n + (k + 1) = (n + k) + 1 from rfl, e_Rd_wordUpTo_15, xW_2]
    by_cases c : p < 135
    · rw [if_pos (by omega), if_pos c, xW_2]
      have ec : ∀ K : Int → Option IR, xch (p : Int) K = K (wdL.getD p 0) := fun K => by
        unfold xch
        rw [if_pos (by omega), Int.toNat_natCast]
      rw [ec]
      have e1 : wr ((p : Int) + 1) = ((p + 1 : Nat) : Int) := by
        rw [wr_id (by omega) (by omega)]
        rfl
      have ei : wr ((i : Int) + 1) = ((i + 1 : Nat) : Int) := by
        rw [wr_id (by omega) (by omega)]
        rfl
      have ew : wr (w + 1) = w + 1 := wr_id (by omega) (by omega)
      by_cases c2 : wdL.getD p 0 = 32
      · rw [if_pos c2, if_pos c2]
        cases sm with
        | false =>
          rw [if_pos (show b2i false = 0 from rfl), if_neg (by decide), ygI (aT_43 s), hf, ew, e1]
          exact ih (p + 1) (w + 1) f true n (by omega) (by omega) (by omega) (by omega)
        | true =>
          rw [if_neg (show ¬ b2i true = 0 by decide), if_pos rfl]
          by_cases c3 : i = t
          · rw [if_pos (by omega), if_pos c3]
          · rw [if_neg (by omega), if_neg c3, ygI (aT_43 s), hf, ew, e1]
            exact ih (p + 1) (w + 1) f true n (by omega) (by omega) (by omega) (by omega)
      · rw [if_neg c2, if_neg c2]
        cases sm with
        | false =>
          rw [if_pos (show b2i false = 0 from rfl), ei, e1, Bool.false_and]
          exact ih (p + 1) w (i + 1) false n (by omega) (by omega) (by omega) (by omega)
        | true =>
          rw [if_neg (show ¬ b2i true = 0 by decide), Bool.true_and]
          by_cases c3 : i < t
          · rw [if_pos (by omega), ygR (aT_43 s) rb, xB_s, yaN (aT_42 s) (aL_42 s) (by omega)]
            by_cases c4 : I 42 i = wdL.getD p 0
            · rw [if_pos c4, ei, e1, decide_eq_true ⟨c3, c4⟩]
              exact ih (p + 1) w (i + 1) true n (by omega) (by omega) (by omega) (by omega)
            · rw [if_neg c4, ei, e1, decide_eq_false (fun z => c4 z.2)]
              exact ih (p + 1) w (i + 1) false n (by omega) (by omega) (by omega) (by omega)
          · rw [if_neg (by omega), ei, e1, decide_eq_false (fun z => c3 z.1)]
            exact ih (p + 1) w (i + 1) false n (by omega) (by omega) (by omega) (by omega)
    · rw [if_neg (by omega), if_neg c]
end P49
/-- the rest of one word -/
theorem wu_one {B : Nat → Int} {f t s n : Nat} {w : Int} (hz : wdL.getD (s + n) 0 = 32) (hl : s + n < 135) (hc : ∀ j, j < n → wdL.getD (s + j) 0 ≠ 32) : ∀ (m j k : Nat) (sm : Bool), j + m = n → (sm = true ↔ (f + j ≤ t ∧ ∀ q, q < j → B (f + q) = wdL.getD (s + q) 0)) → wuL B f t (k + m + 1) (s + j) w (f + j) sm = if eqW B f t s n then w else wuL B f t k (s + n + 1) (w + 1) f true := by
  intro m
  induction m with
  | zero =>
    intro j k sm hj hs
    have : j = n := by omega
    subst this
    rw [Nat.add_zero, wuL, if_pos (by omega), if_pos hz]
    by_cases c : eqW B f t s j
    · rw [if_pos c, if_pos (hs.mpr ⟨by have := c.1; omega, c.2⟩), if_pos c.1.symm]
    · rw [if_neg c]
      by_cases c2 : sm = true
      · rw [if_pos c2]
        have h2 := hs.mp c2
        rw [if_neg (fun z => c ⟨z.symm, h2.2⟩)]
      · rw [if_neg c2]
  | succ m ih =>
    intro j k sm hj hs
    rw [show k + (m + 1) + 1 = (k + m + 1) + 1 from rfl, wuL, if_pos (by omega), if_neg (hc j (by omega))]
    have := ih (j + 1) k (sm && decide (f + j < t ∧ B (f + j) = wdL.getD (s + j) 0)) (by omega) (by
      rw [Bool.and_eq_true, decide_eq_true_iff, hs]
      constructor
      · rintro ⟨⟨a1, a2⟩, a3, a4⟩
        refine ⟨by omega, fun q hq => ?_⟩
        by_cases z : q = j
        · rw [z]; exact a4
        · exact a2 q (by omega)
      · rintro ⟨a1, a2⟩
        exact ⟨⟨by omega, fun q hq => a2 q (by omega)⟩, by omega, a2 j (by omega)⟩)
    exact this
theorem wu_one0 {B : Nat → Int} {f t s n k : Nat} {w : Int} (hz : wdL.getD (s + n) 0 = 32) (hl : s + n < 135) (hc : ∀ j, j < n → wdL.getD (s + j) 0 ≠ 32) (hft : f ≤ t) : wuL B f t (k + n + 1) s w f true = if eqW B f t s n then w else wuL B f t k (s + n + 1) (w + 1) f true :=
  wu_one hz hl hc n 0 k true (by omega) ⟨fun _ => ⟨by omega, fun q hq => absurd hq (by omega)⟩, fun _ => rfl⟩
theorem wdT_ok : (wordTb.all fun x => decide (wdL.getD (x.1 + x.2) 0 = 32 ∧ x.1 + x.2 < 135) && (List.range x.2).all fun j => decide (wdL.getD (x.1 + j) 0 ≠ 32)) = true := by decide +kernel
/-- words one behind the other, up to the end of all -/
def chainW : List (Nat × Nat) → Nat → Prop
  | [], p => p = 135
  | (s, n) :: l, p => s = p ∧ chainW l (s + n + 1)
theorem wu_all {B : Nat → Int} {f t : Nat} (hft : f ≤ t) : ∀ (l : List (Nat × Nat)) (p : Nat) (w : Int), chainW l p → (∀ x ∈ l, (wdL.getD (x.1 + x.2) 0 = 32 ∧ x.1 + x.2 < 135) ∧ ∀ j, j < x.2 → wdL.getD (x.1 + j) 0 ≠ 32) → wuL B f t (136 - p) p w f true = wordL B f t l w
  | [], p, w, hp, _ => by
    have : p = 135 := hp
    subst this
    rw [show 136 - 135 = 0 + 1 from rfl, wuL, if_neg (by omega)]
    rfl
  | (s, n) :: l, p, w, hp, ha => by
    obtain ⟨rfl, h2⟩ := hp
    obtain ⟨⟨a1, a2⟩, a3⟩ := ha (s, n) List.mem_cons_self
    have a1 : wdL.getD (s + n) 0 = 32 := a1
    have a2 : s + n < 135 := a2
    rw [show 136 - s = (136 - (s + n + 1)) + n + 1 by omega, wu_one0 a1 a2 a3 hft, wu_all hft l (s + n + 1) (w + 1) h2 (fun x hx => ha x (List.mem_cons_of_mem _ hx))]
    rfl
theorem wu_T {B : Nat → Int} {f t : Nat} (hft : f ≤ t) : wuL B f t 136 0 256 f true = wordL B f t wordTb 256 := by
  have h := wdT_ok
  rw [List.all_eq_true] at h
  refine wu_all hft wordTb 0 256 (by simp [wordTb, chainW]) (fun x hx => ?_)
  have := h x hx
  rw [Bool.and_eq_true, decide_eq_true_iff, List.all_eq_true] at this
  exact ⟨this.1, fun j hj => of_decide_eq_true (this.2 j (List.mem_range.mpr hj))⟩
section P49b
variable {d : Nat} {h : IH} {I J : Nat → Nat → Int}
theorem s_wordUpTo (s : ShT h) (rb : hR h 43 2 = some 42) {f t : Nat} (hf : I 43 6 = f) (ht : t ≤ 400) (hft : f ≤ t) : rn (d + 1) 55 [iR (some 43), iI t] (st h I J) = some (oI (wordL (I 42) f t wordTb 256), st h I J) := by
  rw [r_Rd_wordUpTo, e_Rd_wordUpTo, ygI (aT_43 s), hf, ← wu_T hft]
  exact l_word s rb hf ht (by omega) 136 0 256 f true 999863 rfl (by omega) (by omega) (by omega)
end P49b
