/-! The reference's words (by program, wip/whole/gen61.py) -/
/-- a byte as the reference keeps it -/
def sb (b : Int) : Int := if b < 128 then b else b - 256
abbrev eqM (B : Nat → Int) (f t s n : Nat) : Prop := t = f + n ∧ ∀ j, j < n → B (f + j) = wordB.getD (s + j) 0
def wordM (B : Nat → Int) (f t : Nat) : List (Nat × Nat) → Int → Int
  | [], _ => 0
  | (s, n) :: l, w => if eqM B f t s n then w else wordM B f t l (w + 1)
def wordMt : List (Nat × Nat) := [(0, 5), (6, 6), (13, 4), (18, 2), (21, 2), (24, 3), (28, 3), (32, 4), (37, 6), (44, 4), (49, 3), (53, 3), (57, 5), (63, 4), (68, 5), (74, 4), (79, 4), (84, 6), (91, 4), (96, 3), (100, 4), (105, 4), (110, 5), (116, 2), (119, 4), (124, 4), (129, 5)]
/-- the reference's number of what the class has as a token -/
def trC (c : Int) : Int := if c = 256 then 8 else if c = 257 then 9 else if c = 258 then 15 else if c = 259 then 10 else if c = 260 then 11 else if c = 261 then 12 else if c = 262 then 13 else if c = 263 then 16 else if c = 264 then 14 else if c = 265 then 17 else if c = 266 then 18 else if c = 267 then 19 else if c = 268 then 20 else if c = 269 then 1 else if c = 270 then 2 else if c = 271 then 3 else if c = 272 then 21 else if c = 273 then 23 else if c = 274 then 25 else if c = 275 then 26 else if c = 276 then 22 else if c = 277 then 24 else if c = 278 then 27 else if c = 279 then 4 else if c = 280 then 5 else if c = 281 then 6 else if c = 282 then 7 else 0
theorem wdM_ok : (wordMt.all fun x => decide (wordB.getD (x.1 + x.2) 0 = 32 ∧ x.1 + x.2 < 135) && (List.range x.2).all fun j => decide (wordB.getD (x.1 + j) 0 ≠ 32 ∧ 97 ≤ wordB.getD (x.1 + j) 0 ∧ wordB.getD (x.1 + j) 0 ≤ 122)) = true := by decide +kernel
def cmpTM (x y : Nat × Nat) : Bool := decide (x.2 = y.2) && (List.range x.2).all fun i => decide (wdL.getD (x.1 + i) 0 = wordB.getD (y.1 + i) 0)
def cmpTT (x y : Nat × Nat) : Bool := decide (x.2 = y.2) && (List.range x.2).all fun i => decide (wdL.getD (x.1 + i) 0 = wdL.getD (y.1 + i) 0)
def fstM (x : Nat × Nat) : List (Nat × Nat) → Int → Int
  | [], _ => 0
  | y :: l, w => if cmpTM x y = true then w else fstM x l (w + 1)
def fstT (x : Nat × Nat) : List (Nat × Nat) → Int → Int
  | [], _ => 1002
  | y :: l, w => if cmpTT x y = true then w else fstT x l (w + 1)
theorem tm_ok : (wordTb.all fun x => decide (fstM x wordMt 1 = trC (fstT x wordTb 256))) = true := by decide +kernel
theorem mt_ok : (wordMt.all fun y => wordTb.any fun x => cmpTM x y) = true := by decide +kernel
theorem cmpTM_iff {x y : Nat × Nat} : cmpTM x y = true ↔ (x.2 = y.2 ∧ ∀ i, i < x.2 → wdL.getD (x.1 + i) 0 = wordB.getD (y.1 + i) 0) := by
  unfold cmpTM
  rw [Bool.and_eq_true, decide_eq_true_iff, List.all_eq_true]
  exact ⟨fun h => ⟨h.1, fun i hi => of_decide_eq_true (h.2 i (List.mem_range.mpr hi))⟩, fun h => ⟨h.1, fun i hi => decide_eq_true (h.2 i (List.mem_range.mp hi))⟩⟩
theorem cmpTT_iff {x y : Nat × Nat} : cmpTT x y = true ↔ (x.2 = y.2 ∧ ∀ i, i < x.2 → wdL.getD (x.1 + i) 0 = wdL.getD (y.1 + i) 0) := by
  unfold cmpTT
  rw [Bool.and_eq_true, decide_eq_true_iff, List.all_eq_true]
  exact ⟨fun h => ⟨h.1, fun i hi => of_decide_eq_true (h.2 i (List.mem_range.mpr hi))⟩, fun h => ⟨h.1, fun i hi => decide_eq_true (h.2 i (List.mem_range.mp hi))⟩⟩
theorem eqM_of {B : Nat → Int} {f t : Nat} {x y : Nat × Nat} (h : eqW B f t x.1 x.2) : eqM B f t y.1 y.2 ↔ cmpTM x y = true := by
  rw [cmpTM_iff]
  constructor
  · rintro ⟨h1, h2⟩
    have e : x.2 = y.2 := by have := h.1; omega
    exact ⟨e, fun i hi => by rw [← h.2 i hi, h2 i (by omega)]⟩
  · rintro ⟨h1, h2⟩
    exact ⟨by have := h.1; omega, fun i hi => by rw [h.2 i (by omega), h2 i (by omega)]⟩
theorem eqT_of {B : Nat → Int} {f t : Nat} {x y : Nat × Nat} (h : eqW B f t x.1 x.2) : eqW B f t y.1 y.2 ↔ cmpTT x y = true := by
  rw [cmpTT_iff]
  constructor
  · rintro ⟨h1, h2⟩
    have e : x.2 = y.2 := by have := h.1; omega
    exact ⟨e, fun i hi => by rw [← h.2 i hi, h2 i (by omega)]⟩
  · rintro ⟨h1, h2⟩
    exact ⟨by have := h.1; omega, fun i hi => by rw [h.2 i (by omega), h2 i (by omega)]⟩
theorem wordM_f {B : Nat → Int} {f t : Nat} {x : Nat × Nat} (h : eqW B f t x.1 x.2) : ∀ (l : List (Nat × Nat)) (w : Int), wordM B f t l w = fstM x l w
  | [], _ => rfl
  | (s, n) :: l, w => by
    unfold wordM fstM
    rw [wordM_f h l (w + 1)]
    by_cases c : eqM B f t s n
    · rw [if_pos c, if_pos ((eqM_of (y := (s, n)) h).mp c)]
    · rw [if_neg c, if_neg (fun z => c ((eqM_of (y := (s, n)) h).mpr z))]
theorem wordL_f {B : Nat → Int} {f t : Nat} {x : Nat × Nat} (h : eqW B f t x.1 x.2) : ∀ (l : List (Nat × Nat)) (w : Int), wordL B f t l w = fstT x l w
  | [], _ => rfl
  | (s, n) :: l, w => by
    unfold wordL fstT
    rw [wordL_f h l (w + 1)]
    by_cases c : eqW B f t s n
    · rw [if_pos c, if_pos ((eqT_of (y := (s, n)) h).mp c)]
    · rw [if_neg c, if_neg (fun z => c ((eqT_of (y := (s, n)) h).mpr z))]
theorem wordL_0 {B : Nat → Int} {f t : Nat} : ∀ (l : List (Nat × Nat)) (w : Int), (∀ x ∈ l, ¬ eqW B f t x.1 x.2) → wordL B f t l w = 1002
  | [], _, _ => rfl
  | (s, n) :: l, w, h => by
    unfold wordL
    rw [if_neg (h (s, n) List.mem_cons_self), wordL_0 l (w + 1) fun x hx => h x (List.mem_cons_of_mem _ hx)]
theorem wordM_0 {B : Nat → Int} {f t : Nat} : ∀ (l : List (Nat × Nat)) (w : Int), (∀ x ∈ l, ¬ eqM B f t x.1 x.2) → wordM B f t l w = 0
  | [], _, _ => rfl
  | (s, n) :: l, w, h => by
    unfold wordM
    rw [if_neg (h (s, n) List.mem_cons_self), wordM_0 l (w + 1) fun x hx => h x (List.mem_cons_of_mem _ hx)]
/-- class and reference find the same word -/
theorem word_same (B : Nat → Int) (f t : Nat) : wordM B f t wordMt 1 = trC (wordL B f t wordTb 256) := by
  by_cases c : ∃ x ∈ wordTb, eqW B f t x.1 x.2
  · obtain ⟨x, hx, h⟩ := c
    rw [wordM_f h, wordL_f h]
    have := tm_ok
    rw [List.all_eq_true] at this
    exact of_decide_eq_true (this x hx)
  · have c1 : ∀ x ∈ wordTb, ¬ eqW B f t x.1 x.2 := fun x hx h => c ⟨x, hx, h⟩
    rw [wordL_0 _ _ c1, wordM_0 _ _ (fun y hy h => by
      have := mt_ok
      rw [List.all_eq_true] at this
      have := this y hy
      rw [List.any_eq_true] at this
      obtain ⟨x, hx, hc⟩ := this
      rw [cmpTM_iff] at hc
      exact c1 x hx ⟨by have := h.1; omega, fun j hj => by rw [h.2 j (by omega), hc.2 j hj]⟩)]
    rfl
theorem sb_eq {b v : Int} (hb : 0 ≤ b ∧ b ≤ 255) (hv : 0 ≤ v ∧ v < 128) : v = sb b ↔ b = v := by
  unfold sb
  split <;> omega
section P61
variable {d n : Nat} {h : IH} {I J : Nat → Nat → Int} {B : Nat → Int}
/-- one word compared -/
theorem l_wordM (s : ShM h 88) (hB : ∀ i, 0 ≤ B i ∧ B i ≤ 255) (eW : ∀ i, I 94 i = wordB.getD i 0) (eT : ∀ i, i < n → I 95 i = sb (B i)) (hn : n ≤ 400) {f t : Nat} (hft : f ≤ t ∧ t ≤ n) {k m : Nat} {w : Int} (hw : 0 ≤ w ∧ w ≤ 1000) (hk : wordB.getD (k + m) 0 = 32 ∧ k + m < 135) (hc : ∀ j, j < m → wordB.getD (k + j) 0 ≠ 32 ∧ 97 ≤ wordB.getD (k + j) 0 ∧ wordB.getD (k + j) 0 ≤ 122) (fu : Nat) (hfu : 2 * m + 5 ≤ fu) : ∃ fu', fu ≤ fu' + (2 * m + 5) ∧ lp d 181 fu 5 [some (iR (some 88)), some (iI f), some (iI t), some (iI w), some (iI k), none, none, none] [] (st h I J) = if eqM B f t k m then some (oI w, st h I J) else lp d 181 fu' 5 [some (iR (some 88)), some (iI f), some (iI t), some (iI (w + 1)), some (iI ((k + m + 1 : Nat) : Int)), none, none, none] [] (st h I J) := by
  have a18 : ∀ (q j fu : Nat), j + q = m → q + 1 ≤ fu → lp d 181 fu 18 [some (iR (some 88)), some (iI f), some (iI t), some (iI w), some (iI k), some (iI (j : Int)), none, none] [] (st h I J) = lp d 181 (fu - q - 1) 57 [some (iR (some 88)), some (iI f), some (iI t), some (iI w), some (iI k), some (iI (m : Int)), some (iI (b2i (decide (t = f + m)))), some (iI 0)] [] (st h I J) := by
    intro q
    induction q with
    | zero =>
      intro j fu hj hfu
      have : j = m := by omega
      subst this
      obtain ⟨fu, rfl⟩ : ∃ q, fu = q + 1 := ⟨fu - 1, by omega⟩
      rw [e_M_wordOf_18, ygR (bT_88 s) (bR_7 s), xB_s, wr_id (x := (k : Int) + j) (by omega) (by omega), yaBv (i := k + j) (x := 32) (Or.inl (bT_94 s)) (bL_94 s) (by omega) (by omega) (by rw [eW]; exact hk.1), if_pos rfl, wr_id (by omega) (by omega)]
      by_cases c : t = f + j
      · rw [if_pos (by omega), decide_eq_true c]
        rfl
      · rw [if_neg (by omega), decide_eq_false c]
        rfl
    | succ q ih =>
      intro j fu hj hfu
      obtain ⟨fu, rfl⟩ : ∃ q, fu = q + 1 := ⟨fu - 1, by omega⟩
      have hcj := hc j (by omega)
      rw [e_M_wordOf_18, ygR (bT_88 s) (bR_7 s), xB_s, wr_id (x := (k : Int) + j) (by omega) (by omega), yaBv (i := k + j) (x := wordB.getD (k + j) 0) (Or.inl (bT_94 s)) (bL_94 s) (by omega) (by omega) (eW _), if_neg hcj.1, wr_id (by omega) (by omega)]
      have := ih (j + 1) fu (by omega) (by omega)
      rw [show fu + 1 - (q + 1) - 1 = fu - q - 1 by omega]
      exact this
  have a57 : ∀ (q j fu : Nat) (sm : Bool), j + q = m → q + 1 ≤ fu → (sm = true → t = f + m) → (sm = true ↔ (t = f + m ∧ ∀ i, i < j → B (f + i) = wordB.getD (k + i) 0)) → ∃ fu', fu ≤ fu' + (q + 1) ∧ lp d 181 fu 57 [some (iR (some 88)), some (iI f), some (iI t), some (iI w), some (iI k), some (iI (m : Int)), some (iI (b2i sm)), some (iI (j : Int))] [] (st h I J) = lp d 181 fu' 104 [some (iR (some 88)), some (iI f), some (iI t), some (iI w), some (iI k), some (iI (m : Int)), some (iI (b2i (decide (eqM B f t k m)))), none] [] (st h I J) := by
    intro q
    induction q with
    | zero =>
      intro j fu sm hj hfu ht hs
      have : j = m := by omega
      subst this
      obtain ⟨fu, rfl⟩ : ∃ q, fu = q + 1 := ⟨fu - 1, by omega⟩
      refine ⟨fu, by omega, ?_⟩
      have e : decide (eqM B f t k j) = sm := by
        cases sm with
        | true => exact decide_eq_true (hs.mp rfl)
        | false => exact decide_eq_false (fun z => absurd (hs.mpr z) (by decide))
      rw [e_M_wordOf_57, if_neg (by omega), e]
    | succ q ih =>
      intro j fu sm hj hfu ht hs
      obtain ⟨fu, rfl⟩ : ∃ q, fu = q + 1 := ⟨fu - 1, by omega⟩
      rw [e_M_wordOf_57, if_pos (by omega)]
      cases sm with
      | false =>
        refine ⟨fu, by omega, ?_⟩
        rw [if_pos (show b2i false = 0 from rfl), decide_eq_false (fun z => absurd (hs.mpr ⟨z.1, fun i hi => z.2 i (by omega)⟩) (by decide))]
      | true =>
        have htm := ht rfl
        have hcj := hc j (by omega)
        have hbj := hB (f + j)
        rw [if_neg (show ¬ b2i true = 0 by decide), ygR (bT_88 s) (bR_7 s), xB_s, wr_id (x := (k : Int) + j) (by omega) (by omega), yaBv (i := k + j) (x := wordB.getD (k + j) 0) (Or.inl (bT_94 s)) (bL_94 s) (by omega) (by omega) (eW _), ygR (bT_88 s) (bR_11 s), xB_s, wr_id (x := (f : Int) + j) (by omega) (by omega), yaBv (i := f + j) (x := sb (B (f + j))) (Or.inl (bT_95 s)) (bL_95 s) (by omega) (by omega) (eT _ (by omega)), wr_id (by omega) (by omega)]
        by_cases c : wordB.getD (k + j) 0 = sb (B (f + j))
        · obtain ⟨fu', g1, g2⟩ := ih (j + 1) fu true (by omega) (by omega) (fun _ => htm) ⟨fun _ => ⟨htm, fun i hi => by
            by_cases z : i = j
            · rw [z]; exact (sb_eq hbj (by omega)).mp c
            · exact (hs.mp rfl).2 i (by omega)⟩, fun _ => rfl⟩
          rw [if_pos c]
          exact ⟨fu', by omega, g2⟩
        · obtain ⟨fu', g1, g2⟩ := ih (j + 1) fu false (by omega) (by omega) (fun z => absurd z (by decide)) ⟨fun z => absurd z (by decide), fun z => absurd ((sb_eq hbj (by omega)).mpr (z.2 j (by omega))) c⟩
          rw [if_neg c]
          exact ⟨fu', by omega, g2⟩
  obtain ⟨fu, rfl⟩ : ∃ q, fu = q + 1 := ⟨fu - 1, by omega⟩
  obtain ⟨fu', g1, g2⟩ := a57 m 0 (fu - m - 1) (decide (t = f + m)) (by omega) (by omega) (fun z => of_decide_eq_true z) ⟨fun z => ⟨of_decide_eq_true z, fun i hi => absurd hi (by omega)⟩, fun z => decide_eq_true z.1⟩
  obtain ⟨fu', rfl⟩ : ∃ q, fu' = q + 1 := ⟨fu' - 1, by omega⟩
  have z18 := a18 m 0 fu (by omega) (by omega)
  have e0 : ((0 : Nat) : Int) = 0 := rfl
  rw [e0] at z18 g2
  refine ⟨fu', by omega, ?_⟩
  rw [e_M_wordOf_5, ygR (bT_88 s) (bR_7 s), xB_s, yle (show hT h 94 < 6 by rw [bT_94 s]; decide) (bL_94 s) (by omega), if_pos (by omega), z18, g2, e_M_wordOf_104]
  by_cases c : eqM B f t k m
  · rw [decide_eq_true c, if_neg (show ¬ b2i true = 0 by decide), if_pos c]
  · rw [decide_eq_false c, if_pos (show b2i false = 0 from rfl), if_neg c, wr_id (x := w + 1) (by omega) (by omega), wr_id (x := (m : Int) + 1) (by omega) (by omega), wr_id (by omega) (by omega)]
    have ek : (k : Int) + ((m : Int) + 1) = ((k + m + 1 : Nat) : Int) := by omega
    rw [ek]
end P61
