/-! The class's reader: PARTS and SUMS (by program, wip/whole/gen52.py) -/
/-- what reading tells: the FAULT, or how far it read, how many parts it had then, what that means -/
abbrev RdR : Type := Sum Int (Nat × Nat × Mng)
section P52a
variable (B : Nat → Int) (n : Nat) (ord : Int)
def aLeaf (p l : Nat) : RdR :=
  if 50 ≤ l then .inl (tkF B n p)
  else if tkC B n p = 1000 ∧ tkV B n p ≤ 1000 then .inr (tkE B n p, l + 1, fun _ => tkV B n p)
  else if ord = 0 then (if 256 ≤ tkC B n p ∧ tkC B n p ≤ 264 then .inr (tkE B n p, l + 1, fun ws => ws (tkC B n p - 256).toNat) else .inl (tkF B n p))
  else if ordW (tkC B n p) = -1 then .inl (tkF B n p)
  else if ordW (tkC B n p) < 4 then .inr (tkE B n p, l + 1, fun ws => ws (ordW (tkC B n p)).toNat)
  else if tkC B n (tkE B n p) = 1000 ∧ tkV B n (tkE B n p) ≤ 6 then .inr (tkE B n (tkE B n p), l + 1, fun ws => ws (ordW (tkC B n p) + tkV B n (tkE B n p)).toNat)
  else .inl (tkF B n (tkE B n p))
/-- a thing closed by the token c -/
def aClose (c : Int) : RdR → RdR
  | .inl f => .inl f
  | .inr (p, l, f) => if tkC B n p = c then .inr (tkE B n p, l, f) else .inl (tkF B n p)
def aPart (br : Option (Nat → Nat → RdR)) (p l : Nat) : RdR := match br with
  | none => aLeaf B n ord p l
  | some inn => if tkC B n p = 91 then aClose B n 93 (inn (tkE B n p) l) else aLeaf B n ord p l
/-- things in a row, brought together by signs: op tells the step of a sign, 0 for no sign -/
def rwRow (op : Int → Int) (it : Nat → Nat → RdR) : Nat → Nat → Nat → Mng → RdR
  | 0, p, l, f => .inr (p, l, f)
  | k + 1, p, l, f => if op (tkC B n p) = 0 then .inr (p, l, f) else match it (tkE B n p) l with
    | .inl q => .inl q
    | .inr (p', l', g) => rwRow op it k p' l' (binF (op (tkC B n p)) f g)
def rwRows (op : Int → Int) (it : Nat → Nat → RdR) (p l : Nat) : RdR := match it p l with
  | .inl q => .inl q
  | .inr (p', l', f) => rwRow B n op it (n - p') p' l' f
def opT (c : Int) : Int := if c = 42 then 4 else if c = 47 then 5 else if c = 37 then 6 else 0
def opS (c : Int) : Int := if c = 43 then 2 else if c = 45 then 3 else 0
/-- a SUM with r brackets more to spare -/
def aSum : Nat → Nat → Nat → RdR
  | 0 => rwRows B n opS (rwRows B n opT (aPart B n ord none))
  | r + 1 => rwRows B n opS (rwRows B n opT (aPart B n ord (some (aSum r))))
end P52a
/-- a method of the reader reads as f tells -/
def RdPr (h : IH) (J : Nat → Nat → Int) (B : Nat → Int) (n : Nat) (ord : Int) (nw : Nat) (Q : Mng → Prop) (run : IH → Option IR) (f : Nat → Nat → RdR) : Prop :=
  (∀ (I : Nat → Nat → Int) (p l m : Nat), RdOk B n ord I p l m → l ≤ 50 → m ≤ p → ∃ I', RdFr I' I ∧ run (st h I J) = some (o0, st h I' J) ∧ (∀ q, f p l = .inl q → RdNo B n ord I' q) ∧ ∀ p' l' g, f p l = .inr (p', l', g) → ∃ m', RdOk B n ord I' p' l' m' ∧ (l < l' ∧ l' ≤ 50) ∧ p < p' ∧ m' + p ≤ p' + m ∧ sem nw (I' 45) (I' 46) m m' (l' - l) g ∧ Q g ∧ SmSt I' I m) ∧
  ∀ (I : Nat → Nat → Int) (q : Int), RdNo B n ord I q → ∃ I', RdFr I' I ∧ run (st h I J) = some (o0, st h I' J) ∧ RdNo B n ord I' q
section P52
variable {d n nw : Nat} {h : IH} {I J : Nat → Nat → Int} {B : Nat → Int} {ord : Int} {p l m : Nat}
theorem l_146 (s : ShT h) (rb : hR h 43 2 = some 42) (hn : n ≤ 400) (hB : ∀ i, 0 ≤ B i ∧ B i ≤ 255) (r : RdOk B n ord I p l m) (hl : l ≤ 50) (hm : m ≤ p) (hc : tkC B n p ≠ 1001) (k : Int) {v : Int} (hv : 0 ≤ v ∧ v ≤ 1000) (f : Nat) : ∃ I', RdFr I' I ∧ SmSt I' I m ∧ lp (d + 2) 69 (f + 1) 146 [some (iR (some 43)), none, some (iI k), some (iI v)] [] (st h I J) = some (o0, st h I' J) ∧ RdOk B n ord I' (tkE B n p) l (m + 1) ∧ (I' 45 m = (if k = 0 then 1 else 0) ∧ I' 46 m = v) ∧ p < tkE B n p := by
  have hp := tkE_lt r.2.2.2.1.1 hc
  have c2 := r.2.2.1.2
  have hm4 : m < 400 := by omega
  have ha : (0 : Int) ≤ (if k = 0 then 1 else 0) ∧ (if k = 0 then (1 : Int) else 0) ≤ 12 := by split <;> omega
  obtain ⟨r1, e1⟩ := r.add hm4 ha hv
  have r2 := r1.next
  refine ⟨tkI (addI I (if k = 0 then 1 else 0) v) B n (tkE B n p), (tkI_fr _ _ _ _).tr (addI_fr _ _ _), fun i hi => ?_, ?_, r2, ?_, hp.1⟩
  · rw [tkI_na (by omega), tkI_na (by omega), e1]
    constructor
    · rw [up_na (by omega), up_na (by omega), up_ni (by omega)]
    · rw [up_na (by omega), up_ni (by omega), up_na (by omega)]
  · rw [e_Rd_readPart_146, if_neg (by omega), ygI (aT_43 s), r.2.2.1.1, if_pos (by omega), ygR (aT_43 s) (aR_43_0 s)]
    by_cases z : k = 0
    · rw [if_pos z, xB_s, yck (aT_44 s), s_add s (by omega), kV_o, yck (aT_43 s)]
      rw [if_pos z] at r1 e1
      rw [s_next s rb hn hB r1, kV_o, if_pos z]
    · rw [if_neg z, xB_s, yck (aT_44 s), s_add s (by omega), kV_o, yck (aT_43 s)]
      rw [if_neg z] at r1 e1
      rw [s_next s rb hn hB r1, kV_o, if_neg z]
  · rw [tkI_na (by omega), tkI_na (by omega), e1]
    exact ⟨by rw [up_na (by omega), up_na (by omega), up_eq], by rw [up_na (by omega), up_eq]⟩
theorem l_146f (s : ShT h) (r : RdOk B n ord I p l m) (k : Int) {v : Int} (hv : v = -1 ∨ 50 < l) (f : Nat) : lp (d + 2) 69 (f + 1) 146 [some (iR (some 43)), none, some (iI k), some (iI v)] [] (st h I J) = some (o0, st h (up (up I 43 1 (tkF B n p)) 43 5 1002) J) := by
  rw [e_Rd_readPart_146]
  by_cases c : v = -1
  · rw [if_pos c, yck (aT_43 s), s_failO s r, kV_o]
  · rw [if_neg c, ygI (aT_43 s), r.2.2.1.1, if_neg (by omega), yck (aT_43 s), s_failO s r, kV_o]
theorem fail_fr (I : Nat → Nat → Int) (x y : Int) : RdFr (up (up I 43 1 x) 43 5 y) I := (RdFr.u43 _ _ _).tr (RdFr.u43 _ _ _)
theorem SmSt.of43 {I' : Nat → Nat → Int} (q : ∀ b, b ≠ 43 → I' b = I b) (m : Nat) : SmSt I' I m := fun i _ => ⟨by rw [q 45 (by omega)], by rw [q 46 (by omega)]⟩
/-- what RdPr asks of a good start -/
def PrG (B : Nat → Int) (n : Nat) (ord : Int) (nw : Nat) (Q : Mng → Prop) (I' I : Nat → Nat → Int) (p l m : Nat) (x : RdR) : Prop := (∀ q, x = .inl q → RdNo B n ord I' q) ∧ ∀ p' l' g, x = .inr (p', l', g) → ∃ m', RdOk B n ord I' p' l' m' ∧ (l < l' ∧ l' ≤ 50) ∧ p < p' ∧ m' + p ≤ p' + m ∧ sem nw (I' 45) (I' 46) m m' (l' - l) g ∧ Q g ∧ SmSt I' I m
theorem PrG.bad {Q : Mng → Prop} {I' I : Nat → Nat → Int} {q : Int} (r : RdNo B n ord I' q) : PrG B n ord nw Q I' I p l m (.inl q) :=
  ⟨fun q' e => (by cases e; exact r), fun p' l' g e => (by cases e)⟩
theorem PrG.fine {Q : Mng → Prop} {I' I : Nat → Nat → Int} {p' l' m' : Nat} {g : Mng} (r : RdOk B n ord I' p' l' m') (h1 : l < l' ∧ l' ≤ 50) (h2 : p < p') (h3 : m' + p ≤ p' + m) (h4 : sem nw (I' 45) (I' 46) m m' (l' - l) g) (h5 : Q g) (h6 : SmSt I' I m) : PrG B n ord nw Q I' I p l m (.inr (p', l', g)) :=
  ⟨fun q' e => (by cases e), fun p2 l2 g2 e => (by cases e; exact ⟨m', r, h1, h2, h3, h4, h5, h6⟩)⟩
theorem l_leaf (s : ShT h) (rb : hR h 43 2 = some 42) (hn : n ≤ 400) (hB : ∀ i, 0 ≤ B i ∧ B i ≤ 255) (ho : (ord = 0 ∧ nw = 9) ∨ (ord = 1 ∧ nw = 18)) (r : RdOk B n ord I p l m) (hl : l ≤ 50) (hm : m ≤ p) (f : Nat) : ∃ I', RdFr I' I ∧ lp (d + 2) 69 (f + 3) 47 [some (iR (some 43)), none, none, none] [] (st h I J) = some (o0, st h I' J) ∧ PrG B n ord nw (fun _ => True) I' I p l m (aLeaf B n ord p l) := by
  have r1 := r.part hl
  have ht := tkC_in (B := B) (n := n) (p := p) hB
  have hv := tkV_in B n p
  have k5 : up I 43 9 ((l : Int) + 1) 43 5 = tkC B n p := r1.2.1.2.1
  have k8 : up I 43 9 ((l : Int) + 1) 43 8 = tkV B n p := r1.2.1.2.2.2.2
  have k4 : up I 43 9 ((l : Int) + 1) 43 4 = ord := r1.1.2.2
  have k9 : up I 43 9 ((l : Int) + 1) 43 9 = ((l + 1 : Nat) : Int) := r1.2.2.1.1
  have kf : RdFr (up I 43 9 ((l : Int) + 1)) I := RdFr.u43 _ _ _
  have ks : SmSt (up I 43 9 ((l : Int) + 1)) I m := SmSt.of43 (fun b hb => up_na hb) m
  -- the fault here
  have bad : ∀ (k v : Int) (f : Nat), (v = -1 ∨ 50 < l + 1) → ∃ I', RdFr I' I ∧ lp (d + 2) 69 (f + 1) 146 [some (iR (some 43)), none, some (iI k), some (iI v)] [] (st h (up I 43 9 ((l : Int) + 1)) J) = some (o0, st h I' J) ∧ PrG B n ord nw (fun _ => True) I' I p l m (.inl (tkF B n p)) := fun k v f hv =>
    ⟨_, (fail_fr _ _ _).tr kf, l_146f s r1 k hv f, PrG.bad (failO r1)⟩
  have good : ∀ (k v : Int) (f : Nat) (g : Mng), l < 50 → tkC B n p ≠ 1001 → (0 ≤ v ∧ v ≤ 1000) → (∀ S W : Nat → Int, S m = (if k = 0 then 1 else 0) → W m = v → sem nw S W m (m + 1) 1 g) → ∃ I', RdFr I' I ∧ lp (d + 2) 69 (f + 1) 146 [some (iR (some 43)), none, some (iI k), some (iI v)] [] (st h (up I 43 9 ((l : Int) + 1)) J) = some (o0, st h I' J) ∧ PrG B n ord nw (fun _ => True) I' I p l m (.inr (tkE B n p, l + 1, g)) := by
    intro k v f g h50 hc hv2 hg
    obtain ⟨I', a1, a2, a3, a4, a5, a6⟩ := l_146 (d := d) (J := J) s rb hn hB r1 (by omega) hm hc k hv2 f
    exact ⟨I', a1.tr kf, a3, PrG.fine a4 (by omega) a6 (by omega) (by rw [Nat.add_sub_cancel_left]; exact hg _ _ a5.1 a5.2) trivial (a2.tr ks (Nat.le_refl _))⟩
  have hw : ordW (tkC B n p) = -1 ∨ (0 ≤ ordW (tkC B n p) ∧ ordW (tkC B n p) ≤ 11 ∧ tkC B n p ≠ 1001) := by
    unfold ordW
    (repeat' split) <;> omega
  have headN : (tkC B n p = 1000 ∧ (0 : Int) ≤ tkV B n p ∧ tkV B n p ≤ 1000) → lp (d + 2) 69 (f + 3) 47 [some (iR (some 43)), none, none, none] [] (st h I J) = lp (d + 2) 69 (f + 1) 146 [some (iR (some 43)), none, some (iI 1), some (iI (tkV B n p))] [] (st h (up I 43 9 ((l : Int) + 1)) J) := by
    intro c
    rw [e_Rd_readPart_47, ygI (aT_43 s), r.2.2.1.1, wr_id (by omega) (by omega), ypI (aT_43 s) (by omega), yck (aT_43 s), s_isNumber s, kI_o, k5, k8, if_pos c, if_neg (by decide), ygI (aT_43 s), k8, e_Rd_readPart_95, if_neg (by decide)]
  have headL : ¬ (tkC B n p = 1000 ∧ (0 : Int) ≤ tkV B n p ∧ tkV B n p ≤ 1000) → ord = 0 → lp (d + 2) 69 (f + 3) 47 [some (iR (some 43)), none, none, none] [] (st h I J) = lp (d + 2) 69 (f + 1) 146 [some (iR (some 43)), none, some (iI 0), some (iI (if 256 ≤ tkC B n p ∧ tkC B n p ≤ 264 then tkC B n p - 256 else -1))] [] (st h (up I 43 9 ((l : Int) + 1)) J) := by
    intro c c2
    rw [e_Rd_readPart_47, ygI (aT_43 s), r.2.2.1.1, wr_id (by omega) (by omega), ypI (aT_43 s) (by omega), yck (aT_43 s), s_isNumber s, kI_o, k5, k8, if_neg c, if_pos rfl, ygI (aT_43 s), k4, if_pos c2, yck (aT_43 s), s_lawWord s (by rw [k5]; omega), kI_o, k5, e_Rd_readPart_95, if_pos rfl, ygI (aT_43 s), k4, if_pos c2]
  have headO : ¬ (tkC B n p = 1000 ∧ (0 : Int) ≤ tkV B n p ∧ tkV B n p ≤ 1000) → ¬ ord = 0 → lp (d + 2) 69 (f + 3) 47 [some (iR (some 43)), none, none, none] [] (st h I J) = (if ordW (tkC B n p) < 4 then lp (d + 2) 69 (f + 1) 146 [some (iR (some 43)), none, some (iI 0), some (iI (ordW (tkC B n p)))] [] (st h (up I 43 9 ((l : Int) + 1)) J)
      else if ((l + 1 : Nat) : Int) ≤ 50 then (if (if tkC B n (tkE B n p) = 1000 ∧ (0 : Int) ≤ tkV B n (tkE B n p) ∧ tkV B n (tkE B n p) ≤ 6 then (1 : Int) else 0) = 0 then lp (d + 2) 69 (f + 1) 146 [some (iR (some 43)), none, some (iI 0), some (iI (-1))] [] (st h (tkI (up I 43 9 ((l : Int) + 1)) B n (tkE B n p)) J) else lp (d + 2) 69 (f + 1) 146 [some (iR (some 43)), none, some (iI 0), some (iI (ordW (tkC B n p) + tkV B n (tkE B n p)))] [] (st h (tkI (up I 43 9 ((l : Int) + 1)) B n (tkE B n p)) J))
      else lp (d + 2) 69 (f + 1) 146 [some (iR (some 43)), none, some (iI 0), some (iI (ordW (tkC B n p)))] [] (st h (up I 43 9 ((l : Int) + 1)) J)) := by
    intro c c2
    have r2 := r1.next
    have hv2 := tkV_in B n (tkE B n p)
    rw [e_Rd_readPart_47, ygI (aT_43 s), r.2.2.1.1, wr_id (by omega) (by omega), ypI (aT_43 s) (by omega), yck (aT_43 s), s_isNumber s, kI_o, k5, k8, if_neg c, if_pos rfl, ygI (aT_43 s), k4, if_neg c2, yck (aT_43 s), s_ordersWord s, kI_o, k5, e_Rd_readPart_95, if_pos rfl, ygI (aT_43 s), k4, if_neg c2, ygI (aT_43 s), k9, yck (aT_43 s), s_next s rb hn hB r1, kV_o, yck (aT_43 s), s_isNumber s, kI_o, ygI (aT_43 s), r2.2.1.2.1, r2.2.1.2.2.2.2, wr_id (x := ordW (tkC B n p) + tkV B n (tkE B n p)) (by omega) (by omega)]
  by_cases c : tkC B n p = 1000 ∧ (0 : Int) ≤ tkV B n p ∧ tkV B n p ≤ 1000
  · rw [headN c]
    by_cases c0 : 50 ≤ l
    · have ea : aLeaf B n ord p l = .inl (tkF B n p) := by
        unfold aLeaf
        rw [if_pos c0]
      rw [ea]
      exact bad _ _ f (Or.inr (by omega))
    · have ea : aLeaf B n ord p l = .inr (tkE B n p, l + 1, fun _ => tkV B n p) := by
        unfold aLeaf
        rw [if_neg c0, if_pos ⟨c.1, c.2.2⟩]
      rw [ea]
      exact good 1 _ f _ (by omega) (by rw [c.1]; decide) c.2 (fun S W h1 h2 => sem_num h1 h2 (by have hb : BRK = -2147483648 := rfl; omega))
  · have c' : ¬ (tkC B n p = 1000 ∧ tkV B n p ≤ 1000) := fun z => c ⟨z.1, hv.1, z.2⟩
    by_cases c2 : ord = 0
    · rw [headL c c2]
      by_cases c0 : 50 ≤ l
      · have ea : aLeaf B n ord p l = .inl (tkF B n p) := by
          unfold aLeaf
          rw [if_pos c0]
        rw [ea]
        exact bad _ _ f (Or.inr (by omega))
      · by_cases c3 : 256 ≤ tkC B n p ∧ tkC B n p ≤ 264
        · have ea : aLeaf B n ord p l = .inr (tkE B n p, l + 1, fun ws => ws (tkC B n p - 256).toNat) := by
            unfold aLeaf
            rw [if_neg c0, if_neg c', if_pos c2, if_pos c3]
          rw [ea, if_pos c3]
          exact good 0 _ f _ (by omega) (by omega) (by omega) (fun S W h1 h2 => sem_wd h1 (by rw [h2]; omega) (by omega))
        · have ea : aLeaf B n ord p l = .inl (tkF B n p) := by
            unfold aLeaf
            rw [if_neg c0, if_neg c', if_pos c2, if_neg c3]
          rw [ea, if_neg c3]
          exact bad _ _ f (Or.inl rfl)
    · rw [headO c c2]
      by_cases c0 : 50 ≤ l
      · have ea : aLeaf B n ord p l = .inl (tkF B n p) := by
          unfold aLeaf
          rw [if_pos c0]
        rw [ea]
        by_cases c3 : ordW (tkC B n p) < 4
        · rw [if_pos c3]
          exact bad _ _ f (Or.inr (by omega))
        · rw [if_neg c3, if_neg (by omega)]
          exact bad _ _ f (Or.inr (by omega))
      · by_cases c3 : ordW (tkC B n p) < 4
        · rw [if_pos c3]
          by_cases c4 : ordW (tkC B n p) = -1
          · have ea : aLeaf B n ord p l = .inl (tkF B n p) := by
              unfold aLeaf
              rw [if_neg c0, if_neg c', if_neg c2, if_pos c4]
            rw [ea]
            exact bad _ _ f (Or.inl c4)
          · have ea : aLeaf B n ord p l = .inr (tkE B n p, l + 1, fun ws => ws (ordW (tkC B n p)).toNat) := by
              unfold aLeaf
              rw [if_neg c0, if_neg c', if_neg c2, if_neg c4, if_pos c3]
            rw [ea]
            exact good 0 _ f _ (by omega) (by omega) (by omega) (fun S W h1 h2 => sem_wd h1 (by rw [h2]; omega) (by omega))
        · rw [if_neg c3, if_pos (by omega)]
          have r2 := r1.next
          have hv2 := tkV_in B n (tkE B n p)
          have hp := tkE_lt r.2.2.2.1.1 (show tkC B n p ≠ 1001 by omega)
          have kf2 := (tkI_fr (up I 43 9 ((l : Int) + 1)) B n (tkE B n p)).tr kf
          have ks2 : SmSt (tkI (up I 43 9 ((l : Int) + 1)) B n (tkE B n p)) I m := (SmSt.of43 (fun b hb => tkI_na hb) m).tr ks (Nat.le_refl _)
          by_cases c5 : tkC B n (tkE B n p) = 1000 ∧ (0 : Int) ≤ tkV B n (tkE B n p) ∧ tkV B n (tkE B n p) ≤ 6
          · have ea : aLeaf B n ord p l = .inr (tkE B n (tkE B n p), l + 1, fun ws => ws (ordW (tkC B n p) + tkV B n (tkE B n p)).toNat) := by
              unfold aLeaf
              rw [if_neg c0, if_neg c', if_neg c2, if_neg (by omega), if_neg c3, if_pos ⟨c5.1, c5.2.2⟩]
            rw [ea, if_pos c5, if_neg (by decide)]
            obtain ⟨I', a1, a2, a3, a4, a5, a6⟩ := l_146 (d := d) (J := J) s rb hn hB r2 (by omega) (by omega) (by rw [c5.1]; decide) 0 (v := ordW (tkC B n p) + tkV B n (tkE B n p)) (by omega) f
            refine ⟨I', a1.tr kf2, a3, PrG.fine a4 (by omega) (by omega) (by omega) ?_ trivial (a2.tr ks2 (Nat.le_refl _))⟩
            rw [Nat.add_sub_cancel_left]
            exact sem_wd a5.1 (by rw [a5.2]; omega) (by omega)
          · have ea : aLeaf B n ord p l = .inl (tkF B n (tkE B n p)) := by
              unfold aLeaf
              rw [if_neg c0, if_neg c', if_neg c2, if_neg (by omega), if_neg c3, if_neg (fun z => c5 ⟨z.1, hv2.1, z.2⟩)]
            rw [ea, if_neg c5, if_pos rfl]
            exact ⟨_, (fail_fr _ _ _).tr kf2, l_146f s r2 0 (Or.inl rfl) f, PrG.bad (failO r2)⟩
end P52

