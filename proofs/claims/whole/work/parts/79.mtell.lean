/-! Liked, altered, barred, sent: the reference (by program, wip/whole/gen79.py) -/
/-- the law f of the reference's row K is a text of cc clauses CL -/
def LwM (K : Nat → Int) (f cc : Nat) (CL : Nat → Cls) : Prop := ∃ (B : Nat → Int) (n c : Nat), EvT B n c ∧ EvR B n c (400 * f) K ∧ K (187 + f) = (c : Int) ∧ aText B n 0 = .inr (cc, CL)
abbrev LwV : Type := Option (Nat × (Nat → Cls))
/-- the law in force -/
def LwR (K : Nat → Int) (L : LwV) : Prop := (K 186 = -1 ∧ L = none) ∨ ∃ (f cc : Nat) (CL : Nat → Cls), K 186 = (f : Int) ∧ f < 6 ∧ L = some (cc, CL) ∧ LwM K f cc CL
/-- the words of a LAW -/
def wordsK (K : Nat → Int) (t s m : Int) (k : Nat) : Int := match k with
  | 0 => t
  | 1 => s
  | 2 => K (7 + s.toNat)
  | 3 => K (113 + s.toNat)
  | 4 => if t = s then 1 else 0
  | 5 => K (14 + (7 * t + s).toNat)
  | 6 => m
  | 7 => K 112
  | 8 => K 182
  | _ => 0
/-- as the reference lays them -/
def askW (K : Nat → Int) (t s m : Int) (k : Nat) : Int := match k with
  | 0 => t
  | 1 => s
  | 2 => K (113 + s.toNat)
  | 3 => if s = t then 1 else 0
  | 4 => K (14 + (7 * t + s).toNat)
  | 5 => m
  | 6 => K 182
  | 7 => K (7 + s.toNat)
  | _ => K 112
def milesK (K : Nat → Int) (p t : Int) : Int := K (120 + (7 * p + t).toNat)
def atK (K : Nat → Int) (s : Int) : Int := ((firstAt K s 0 (K 183).toNat : Nat) : Int)
noncomputable def tellK (L : LwV) (ws : Nat → Int) (kind top wo : Int) : Int := match L with
  | none => wo
  | some (cc, CL) => toldC CL ws kind top wo cc
noncomputable def likeK (K : Nat → Int) (L : LwV) (t s : Int) : Int := tellK L (wordsK K t s (milesK K (atK K s) t)) 4 99 (K (7 + s.toNat))
noncomputable def altK (K : Nat → Int) (L : LwV) (t s : Int) : Int := tellK L (wordsK K t s 0) 5 9 (K (7 + s.toNat))
noncomputable def barK (K : Nat → Int) (L : LwV) (t s p : Int) : Int := tellK L (wordsK K t s (milesK K p t)) 6 1 0
noncomputable def sendK (K : Nat → Int) (L : LwV) (s p t : Int) : Int := if (0 < milesK K p t ∧ K (63 + (7 * p + t).toNat) = 0) ∧ barK K L t s p ≠ 1 then 1 else 0
noncomputable def haveK (K : Nat → Int) (L : LwV) (t s : Int) : Int := if atK K s = t then 1 else sendK K L s (atK K s) t
/-- the reference's row as it may be -/
def KOk (K : Nat → Int) : Prop := (0 ≤ K 183 ∧ K 183 ≤ 7) ∧ ((∀ u : Nat, (u : Int) < K 183 → 0 ≤ K u ∧ K u < K 183) ∧ ∀ s : Nat, (s : Int) < K 183 → ∃ u : Nat, (u : Int) < K 183 ∧ K u = s) ∧
  ((∀ s, s < 7 → (0 ≤ K (7 + s) ∧ K (7 + s) ≤ 9) ∧ (0 ≤ K (113 + s) ∧ K (113 + s) ≤ 9)) ∧ (∀ i, i < 49 → (0 ≤ K (14 + i) ∧ K (14 + i) ≤ 99) ∧ (K (63 + i) = 0 ∨ K (63 + i) = 1) ∧ (0 ≤ K (120 + i) ∧ K (120 + i) ≤ 99)) ∧ (∀ x y, x < 7 → y < 7 → K (63 + (7 * x + y)) = K (63 + (7 * y + x))) ∧ ∀ x, x < 7 → K (120 + 8 * x) = 0) ∧
  ((0 ≤ K 112 ∧ K 112 ≤ 999) ∧ (0 ≤ K 181 ∧ K 181 ≤ 10) ∧ (0 ≤ K 182 ∧ K 182 ≤ 9)) ∧ ((0 ≤ K 184 ∧ K 184 ≤ 6) ∧ ∀ i : Nat, (i : Int) < K 184 → (0 ≤ K (169 + 2 * i) ∧ K (169 + 2 * i) < K 183) ∧ (0 ≤ K (170 + 2 * i) ∧ K (170 + 2 * i) ≤ 99)) ∧ (0 ≤ K 185 ∧ K 185 ≤ 6) ∧ (-1 ≤ K 186 ∧ K 186 < K 185)
theorem firstAt_ok {f : Nat → Int} {s : Int} : ∀ (k t : Nat), (∃ u, t ≤ u ∧ u < t + k ∧ f u = s) → t ≤ firstAt f s t k ∧ firstAt f s t k < t + k ∧ f (firstAt f s t k) = s
  | 0, t, h => by
    obtain ⟨u, h1, h2, _⟩ := h
    omega
  | k + 1, t, h => by
    rw [firstAt_s]
    by_cases c : f t = s
    · rw [if_pos c]
      exact ⟨Nat.le_refl _, by omega, c⟩
    · rw [if_neg c]
      obtain ⟨u, h1, h2, h3⟩ := h
      have : t ≠ u := fun z => c (z ▸ h3)
      have := firstAt_ok k (t + 1) ⟨u, by omega, by omega, h3⟩
      omega
theorem atK_ok {K : Nat → Int} (k : KOk K) {s : Int} (hs : 0 ≤ s ∧ s < K 183) : (0 ≤ atK K s ∧ atK K s < K 183) ∧ K (atK K s).toNat = s := by
  obtain ⟨u, h1, h2⟩ := k.2.1.2 s.toNat (by omega)
  have h := firstAt_ok (f := K) (s := s) (K 183).toNat 0 ⟨u, by omega, by omega, by rw [h2]; omega⟩
  unfold atK
  rw [Int.toNat_natCast]
  exact ⟨by omega, h.2.2⟩
/-- a town has one Sunday, a Sunday is in one town -/
theorem KOk.inj {K : Nat → Int} (k : KOk K) : ∀ {u v : Nat}, (u : Int) < K 183 → (v : Int) < K 183 → K u = K v → u = v := by
  have hn := k.1
  have h1 := k.2.1.1
  have h2 := k.2.1.2
  -- places at which a Sunday is found
  have hg : ∀ s : Nat, (s : Int) < K 183 → 0 ≤ atK K s ∧ atK K s < K 183 ∧ K (atK K s).toNat = s := fun s hs => by
    have := atK_ok k (s := s) (by omega)
    exact ⟨this.1.1, this.1.2, this.2⟩
  have fin : ∀ (m : Nat), m ≤ 7 → ∀ f g : Nat → Nat, (∀ u, u < m → f u < m) → (∀ s, s < m → g s < m ∧ f (g s) = s) → ∀ u v, u < m → v < m → f u = f v → u = v := by
    intro m
    induction m with
    | zero => intro _ f g _ _ u v hu; omega
    | succ m ih =>
      intro hm f g hf hgf u v hu hv e
      -- without the last Sunday and the place where it is
      have hp := hgf m (by omega)
      have ih := ih (by omega) (fun x => f (if x < g m then x else x + 1)) (fun s => if g s < g m then g s else g s - 1)
      have f1 : ∀ x, x < m + 1 → x ≠ g m → f x ≠ m ∨ True := fun _ _ _ => Or.inr trivial
      by_cases q : ∃ x, x < m + 1 ∧ x ≠ g m ∧ f x = m
      · -- then some Sunday below would be found nowhere: counted
        exfalso
        obtain ⟨x, x1, x2, x3⟩ := q
        -- g is one to one, its values leave x out
        have gi : ∀ a b, a < m + 1 → b < m + 1 → g a = g b → a = b := fun a b ha hb e => by
          have := (hgf a ha).2
          rw [e, (hgf b hb).2] at this
          exact this.symm
        have gx : ∀ a, a < m + 1 → g a ≠ x := fun a ha e => by
          have := (hgf a ha).2
          rw [e, x3] at this
          rw [← this] at e
          exact x2 e.symm
        -- m + 1 different numbers below m + 1, none of them x
        have pig : ∀ (j : Nat) (g : Nat → Nat), (∀ a b, a < j + 1 → b < j + 1 → g a = g b → a = b) → (∀ a, a < j + 1 → g a < j) → False := by
          intro j
          induction j with
          | zero => intro g _ h; exact absurd (h 0 (by omega)) (by omega)
          | succ j ihj =>
            intro g gi gl
            refine ihj (fun a => if g a < g (j + 1) then g a else g a - 1) (fun a b ha hb e => ?_) (fun a ha => ?_)
            · have na : g a ≠ g (j + 1) := fun z => by have := gi _ _ (by omega) (by omega) z; omega
              have nb : g b ≠ g (j + 1) := fun z => by have := gi _ _ (by omega) (by omega) z; omega
              apply gi _ _ (by omega) (by omega)
              try dsimp only at e
              split at e <;> split at e <;> omega
            · have na : g a ≠ g (j + 1) := fun z => by have := gi _ _ (by omega) (by omega) z; omega
              have l1 := gl a (by omega)
              have l2 := gl (j + 1) (by omega)
              try dsimp only
              split <;> omega
        refine pig m (fun a => if g a < x then g a else g a - 1) (fun a b ha hb e => ?_) (fun a ha => ?_)
        · have na := gx a ha
          have nb := gx b hb
          apply gi _ _ ha hb
          try dsimp only at e
          split at e <;> split at e <;> omega
        · have na := gx a ha
          have := (hgf a ha).1
          try dsimp only
          split <;> omega
      · have q' : ∀ x, x < m + 1 → x ≠ g m → f x ≠ m := fun x a b c => q ⟨x, a, b, c⟩
        by_cases u0 : u = g m
        · by_cases v0 : v = g m
          · omega
          · exact absurd (by rw [← e, u0, hp.2]) (q' v hv v0)
        · by_cases v0 : v = g m
          · exact absurd (by rw [e, v0, hp.2]) (q' u hu u0)
          · have r := ih (fun x hx => by
              have h1 : (if x < g m then x else x + 1) < m + 1 := by split <;> omega
              have h2 := hf _ h1
              have h3 := q' _ h1 (by split <;> omega)
              try dsimp only
              omega) (fun s hs => by
              have h1 := hgf s (by omega)
              have h2 : g s ≠ g m := fun z => by
                rw [z, hp.2] at h1
                omega
              try dsimp only
              refine ⟨by split <;> omega, ?_⟩
              by_cases z : g s < g m
              · rw [if_pos z, if_pos z]; exact h1.2
              · rw [if_neg z, if_neg (by omega), show g s - 1 + 1 = g s by omega]; exact h1.2) (if u < g m then u else u - 1) (if v < g m then v else v - 1) (by split <;> omega) (by split <;> omega) (by
              have eu : (if (if u < g m then u else u - 1) < g m then (if u < g m then u else u - 1) else (if u < g m then u else u - 1) + 1) = u := by
                by_cases z : u < g m
                · rw [if_pos z, if_pos z]
                · rw [if_neg z, if_neg (by omega)]; omega
              have ev : (if (if v < g m then v else v - 1) < g m then (if v < g m then v else v - 1) else (if v < g m then v else v - 1) + 1) = v := by
                by_cases z : v < g m
                · rw [if_pos z, if_pos z]
                · rw [if_neg z, if_neg (by omega)]; omega
              try dsimp only
              rw [eu, ev]
              exact e)
            split at r <;> split at r <;> omega
  intro u v hu hv e
  refine fin (K 183).toNat (by omega) (fun u => (K u).toNat) (fun s => (atK K s).toNat) (fun u hu => ?_) (fun s hs => ?_) u v (by omega) (by omega) (congrArg Int.toNat e)
  · have := h1 u (by omega)
    try dsimp only
    omega
  · have := hg s (by omega)
    try dsimp only
    refine ⟨by omega, ?_⟩
    rw [this.2.2]
    exact Int.toNat_natCast s
theorem atK_of {K : Nat → Int} (k : KOk K) {u : Nat} (hu : (u : Int) < K 183) : atK K (K u) = u := by
  have h := k.2.1.1 u hu
  have h2 := atK_ok k h
  have := k.inj (u := (atK K (K u)).toNat) (v := u) (by omega) hu h2.2
  omega
section P79
variable {d : Nat} {h : IH} {I J : Nat → Nat → Int} {L : LwV}
theorem wordsK_bd {K : Nat → Int} (k : KOk K) {t s m : Int} (ht : 0 ≤ t ∧ t < 7) (hs : 0 ≤ s ∧ s < 7) (hm : 0 ≤ m ∧ m ≤ 99) (j : Nat) : bdd (wordsK K t s m j) := by
  obtain ⟨k1, k2, ⟨k3, k4, k5, k6⟩, ⟨k7, k8, k9⟩, k10⟩ := k
  have a1 := k3 s.toNat (by omega)
  have a2 := k4 (7 * t + s).toNat (by omega)
  unfold wordsK bdd
  split <;> first | omega | (split <;> omega)
theorem ask_ws (I : Nat → Nat → Int) (t s m : Int) : wsL (rowUp I 100 9 (askW (I 90) t s m)) = wordsK (I 90) t s m := by
  funext k
  unfold wsL
  by_cases c : k < 9
  · rw [if_pos c]
    have e : ∀ j : Nat, j < 9 → rowUp I 100 9 (askW (I 90) t s m) 100 j = askW (I 90) t s m j := fun j hj => if_pos ⟨rfl, hj⟩
    rcases (show k = 0 ∨ k = 1 ∨ k = 2 ∨ k = 3 ∨ k = 4 ∨ k = 5 ∨ k = 6 ∨ k = 7 ∨ k = 8 by omega) with rfl | rfl | rfl | rfl | rfl | rfl | rfl | rfl | rfl
    · rw [show (trC (256 + ((0 : Nat) : Int)) - 8).toNat = 0 by decide, e _ (by omega)]; rfl
    · rw [show (trC (256 + ((1 : Nat) : Int)) - 8).toNat = 1 by decide, e _ (by omega)]; rfl
    · rw [show (trC (256 + ((2 : Nat) : Int)) - 8).toNat = 7 by decide, e _ (by omega)]; rfl
    · rw [show (trC (256 + ((3 : Nat) : Int)) - 8).toNat = 2 by decide, e _ (by omega)]; rfl
    · rw [show (trC (256 + ((4 : Nat) : Int)) - 8).toNat = 3 by decide, e _ (by omega)]
      show (if s = t then (1 : Int) else 0) = if t = s then 1 else 0
      by_cases z : s = t
      · rw [if_pos z, if_pos z.symm]
      · rw [if_neg z, if_neg (fun q => z q.symm)]
    · rw [show (trC (256 + ((5 : Nat) : Int)) - 8).toNat = 4 by decide, e _ (by omega)]; rfl
    · rw [show (trC (256 + ((6 : Nat) : Int)) - 8).toNat = 5 by decide, e _ (by omega)]; rfl
    · rw [show (trC (256 + ((7 : Nat) : Int)) - 8).toNat = 8 by decide, e _ (by omega)]; rfl
    · rw [show (trC (256 + ((8 : Nat) : Int)) - 8).toNat = 6 by decide, e _ (by omega)]; rfl
  · rw [if_neg c]
    obtain ⟨j, rfl⟩ : ∃ j, k = j + 9 := ⟨k - 9, by omega⟩
    rfl
theorem s_setsAsked (s : ShM h 88) {t u : Int} (ht : 0 ≤ t ∧ t < 7) (hu : 0 ≤ u ∧ u < 7) (m : Int) : rn (d + 2) 218 [iR (some 88), iI t, iI u, iI m] (st h I J) = some (o0, st h (rowUp I 100 9 (askW (I 90) t u m)) J) := by
  have key : st h (rowUp I 100 9 (askW (I 90) t u m)) J = st h (up (up (up (up (up (up (up (up (up I 100 0 t) 100 1 u) 100 2 (I 90 (113 + u.toNat))) 100 3 (if u = t then 1 else 0)) 100 4 (I 90 (14 + (7 * t + u).toNat))) 100 5 m) 100 6 (I 90 182)) 100 7 (I 90 (7 + u.toNat))) 100 8 (I 90 112)) J := by
    congr 1
    funext q k
    unfold rowUp
    by_cases hq : q = 100
    · subst hq
      simp only [up_at, true_and]
      by_cases hk : k < 9
      · rw [if_pos hk]
        rcases (show k = 0 ∨ k = 1 ∨ k = 2 ∨ k = 3 ∨ k = 4 ∨ k = 5 ∨ k = 6 ∨ k = 7 ∨ k = 8 by omega) with rfl | rfl | rfl | rfl | rfl | rfl | rfl | rfl | rfl <;> rfl
      · rw [if_neg hk, if_neg (by omega), if_neg (by omega), if_neg (by omega), if_neg (by omega), if_neg (by omega), if_neg (by omega), if_neg (by omega), if_neg (by omega), if_neg (by omega)]
    · rw [if_neg (fun z => hq z.1)]
      simp only [up_na hq]
  have na : ∀ (I : Nat → Nat → Int) (i : Nat) (x : Int), up I 100 i x 90 = I 90 := fun I i x => up_na (by omega)
  have tl : ∀ (I1 : Nat → Nat → Int) (x : Int), I1 90 = I 90 → lp (d + 1) 218 999999 44 [some (iR (some 88)), some (iI t), some (iI u), some (iI m)] [iI x, iI 3, iR (some 100)] (st h I1 J) = some (o0, st h (up (up (up (up (up (up I1 100 3 x) 100 4 (I 90 (14 + (7 * t + u).toNat))) 100 5 m) 100 6 (I 90 182)) 100 7 (I 90 (7 + u.toNat))) 100 8 (I 90 112)) J) := fun I1 x e => by
    show lp (d + 1) 218 (999998 + 1) 44 _ _ _ = _
    rw [e_M_setsAsked_44, xB_s, zSI (i := 3) (j := 3) (bT_100 s) (by omega) (bL_100 s) rfl (by omega), ygR (bT_88 s) (bR_26 s), ygR (bT_88 s) (bR_2 s), s_pairAt (d := d) _ (by omega) (by omega), kI_o, xB_s, zAI (i := 14 + (7 * t + u).toNat) (bT_90 s) (bL_90 s) (by rw [wr_id (by omega) (by omega)]; omega) (by omega), na, e, xB_s, zSI (i := 4) (j := 4) (bT_100 s) (by omega) (bL_100 s) rfl (by omega), ygR (bT_88 s) (bR_26 s), xB_s, zSI (i := 5) (j := 5) (bT_100 s) (by omega) (bL_100 s) rfl (by omega), ygR (bT_88 s) (bR_26 s), ygR (bT_88 s) (bR_2 s), xB_s, zAI (i := 182) (j := 182) (bT_90 s) (bL_90 s) rfl (by omega), na, na, na, e, xB_s, zSI (i := 6) (j := 6) (bT_100 s) (by omega) (bL_100 s) rfl (by omega), ygR (bT_88 s) (bR_26 s), ygR (bT_88 s) (bR_2 s), xB_s, zAI (i := 7 + u.toNat) (bT_90 s) (bL_90 s) (by rw [wr_id (by omega) (by omega)]; omega) (by omega), na, na, na, na, e, xB_s, zSI (i := 7) (j := 7) (bT_100 s) (by omega) (bL_100 s) rfl (by omega), ygR (bT_88 s) (bR_26 s), ygR (bT_88 s) (bR_2 s), xB_s, zAI (i := 112) (j := 112) (bT_90 s) (bL_90 s) rfl (by omega), na, na, na, na, na, e, xB_s, zSI (i := 8) (j := 8) (bT_100 s) (by omega) (bL_100 s) rfl (by omega)]
  rw [key, r_M_setsAsked, e_M_setsAsked, ygR (bT_88 s) (bR_26 s), xB_s, zSI (i := 0) (j := 0) (bT_100 s) (by omega) (bL_100 s) rfl (by omega), ygR (bT_88 s) (bR_26 s), xB_s, zSI (i := 1) (j := 1) (bT_100 s) (by omega) (bL_100 s) rfl (by omega), ygR (bT_88 s) (bR_26 s), ygR (bT_88 s) (bR_2 s), xB_s, zAI (i := 113 + u.toNat) (bT_90 s) (bL_90 s) (by rw [wr_id (by omega) (by omega)]; omega) (by omega), na, na, xB_s, zSI (i := 2) (j := 2) (bT_100 s) (by omega) (bL_100 s) rfl (by omega), ygR (bT_88 s) (bR_26 s)]
  by_cases c : u = t
  · rw [if_pos c, if_pos c]
    exact tl _ 1 (by rw [na, na, na])
  · rw [if_neg c, if_neg c]
    exact tl _ 0 (by rw [na, na, na])
/-- what asking a law leaves as it is -/
def AsFr (I' I : Nat → Nat → Int) : Prop := (∀ b, b ≠ 88 → b ≠ 100 → I' b = I b) ∧ ∀ i, i ≠ 22 → i ≠ 23 → i ≠ 24 → i ≠ 25 → I' 88 i = I 88 i
theorem AsFr.rf (I : Nat → Nat → Int) : AsFr I I := ⟨fun _ _ _ => rfl, fun _ _ _ _ _ => rfl⟩
theorem AsFr.tr {A B C : Nat → Nat → Int} (h1 : AsFr A B) (h2 : AsFr B C) : AsFr A C := ⟨fun b q1 q2 => (h1.1 b q1 q2).trans (h2.1 b q1 q2), fun i q1 q2 q3 q4 => (h1.2 i q1 q2 q3 q4).trans (h2.2 i q1 q2 q3 q4)⟩
theorem up_sx (I : Nat → Nat → Int) {a i j : Nat} (x y : Int) (z : i ≠ j) : up (up I a i x) a j y = up (up I a j y) a i x := by
  funext q k
  unfold up
  by_cases c1 : q = a ∧ k = j
  · rw [if_pos c1, if_neg (by omega), if_pos c1]
  · rw [if_neg c1]
    by_cases c2 : q = a ∧ k = i
    · rw [if_pos c2, if_pos c2]
    · rw [if_neg c2, if_neg c2, if_neg c1]
theorem s_tells (s : ShM h 88) {f cc : Nat} {CL : Nat → Cls} (hf : I 90 186 = (f : Int) ∧ f < 6) (hl : LwM (I 90) f cc CL) (hm : 0 ≤ I 90 183 ∧ I 90 183 ≤ 7) (hw : ∀ k, bdd (wsL I k)) (hd : Int) {top wo : Int} (htop : 0 ≤ top ∧ top ≤ 99) (hwo : bdd wo) : ∃ I', AsFr I' I ∧ I' 100 = I 100 ∧ rn (d + 43) 219 [iR (some 88), iI hd, iI top, iI wo] (st h I J) = some (oI (toldC CL (wsL I) (hd + 3) top wo cc), st h I' J) := by
  obtain ⟨B, n, c, t, hR, hc, ha⟩ := hl
  have hcn := t.2.1
  unfold aText at ha
  cases e1 : aClause B n 0 0 0 with
  | inl q =>
    rw [e1] at ha
    cases ha
  | inr x =>
    obtain ⟨p1, l1, cl⟩ := x
    rw [e1] at ha
    obtain ⟨j1, a1, a2, a3⟩ := ev_rule (d := d) (h := h) (J := J) (o := 400 * f) s t (Nat.zero_le c) (show aClause B n 0 (posT B n 0) 0 = _ from e1)
    subst a2
    obtain ⟨-, b3⟩ := ev_text (d := d) (h := h) (J := J) (o := 400 * f) s t (n - posT B n j1) 1 j1 l1 cc (fun _ => cl) CL (Nat.le_refl _) a1.2 ha
    have eo : EvOk B n c (400 * f) 0 (up (up I 88 25 0) 88 23 ((400 * f + c : Nat) : Int)) := by
      refine ⟨t, ⟨up_eq _ _ _ _, by rw [up_ni (by omega), up_eq], by omega⟩, by rw [up_na (by omega), up_na (by omega)]; exact hR, by rw [up_na (by omega), up_na (by omega)]; exact hm, fun k _ => ?_⟩
      have e : wsM 0 (up (up I 88 25 0) 88 23 ((400 * f + c : Nat) : Int)) = wsL I := by
        unfold wsM
        rw [if_pos rfl]
        funext k
        unfold wsL
        rw [up_na (by omega), up_na (by omega)]
      rw [e]
      exact hw k
    have ew : wsL (up (up I 88 25 0) 88 23 ((400 * f + c : Nat) : Int)) = wsL I := by
      funext k
      unfold wsL
      rw [up_na (by omega), up_na (by omega)]
    have es : up (up (up I 88 25 0) 88 22 ((400 * f + 0 : Nat) : Int)) 88 23 ((400 * f + c : Nat) : Int) = evI (up (up I 88 25 0) 88 23 ((400 * f + c : Nat) : Int)) ((400 * f + 0 : Nat) : Int) (I 88 24) := by
      rw [up_sx _ _ _ (by omega)]
      unfold evI
      have e24 : up (up (up I 88 25 0) 88 23 ((400 * f + c : Nat) : Int)) 88 22 ((400 * f + 0 : Nat) : Int) 88 24 = I 88 24 := by
        rw [up_ni (by omega), up_ni (by omega), up_ni (by omega)]
      rw [← e24, up_self]
    obtain ⟨f', b', m1, m2, m3⟩ := a3 _ hd top wo (I 88 24) (999998 - 6) eo
    obtain ⟨f2, rfl⟩ : ∃ q, f' = 6 * (n - posT B n j1) + 1 + q := ⟨f' - (6 * (n - posT B n j1) + 1), by omega⟩
    obtain ⟨b'', q1, q2⟩ := b3 _ hd top wo b' f2 eo m2 hwo htop
    refine ⟨evI (up (up I 88 25 0) 88 23 ((400 * f + c : Nat) : Int)) ((400 * f + (c + 1) : Nat) : Int) b'', ⟨fun b z1 z2 => by rw [evI_na z1, up_na z1, up_na z1], fun i z1 z2 z3 z4 => by rw [evI_ni z1 z3, up_ni z2, up_ni z4]⟩, by rw [evI_na (by omega), up_na (by omega), up_na (by omega)], ?_⟩
    rw [r_M_tells]
    show lp (d + 42) 219 (999998 + 1 + 1) 0 _ _ _ = _
    rw [e_M_tells, ygR (bT_88 s) (bR_2 s), xB_s, zAI (i := 186) (j := 186) (bT_90 s) (bL_90 s) rfl (by omega), hf.1, if_neg (by omega), ypZ (bT_88 s) (by omega) (Or.inl rfl), ygR (bT_88 s) (bR_2 s), xB_s, zAI (i := 186) (j := 186) (bT_90 s) (bL_90 s) rfl (by omega), up_na (by omega), hf.1, ypI (bT_88 s) (by omega), show wr (400 * (f : Int)) = ((400 * f + 0 : Nat) : Int) by rw [wr_id (by omega) (by omega)]; omega]
    rw [e_M_tells_41, ygI (bT_88 s), up_eq, ygR (bT_88 s) (bR_2 s), ygR (bT_88 s) (bR_2 s), xB_s, zAI (i := 186) (j := 186) (bT_90 s) (bL_90 s) rfl (by omega), up_na (by omega), up_na (by omega), hf.1, xB_s, zAI (i := 187 + f) (bT_90 s) (bL_90 s) (by rw [wr_id (by omega) (by omega)]; omega) (by omega), up_na (by omega), up_na (by omega), hc, ypI (bT_88 s) (by omega), show wr (((400 * f + 0 : Nat) : Int) + (c : Int)) = ((400 * f + c : Nat) : Int) by rw [wr_id (by omega) (by omega)]; omega, es]
    show lp (d + 42) 219 (999998 - 6 + 6) 65 _ _ _ = _
    rw [m3]
    rw [ew] at q2 ⊢
    have e1 : (if hldC cl (hd + 3) (wsL I) then clmp top (valP cl.2.2 0 (wsL I)) else wo) = toldC (fun _ => cl) (wsL I) (hd + 3) top wo 1 := by
      by_cases q : hldC cl (hd + 3) (wsL I)
      · rw [if_pos q, toldC_y (CL := fun _ => cl) q]
      · rw [if_neg q, toldC_n (CL := fun _ => cl) q]
        rfl
    rw [e1]
    exact q2
theorem s_milesFor (s : ShM h 88) (k : KOk (I 90)) {t u : Int} (ht : 0 ≤ t ∧ t < I 90 183) (hu : 0 ≤ u ∧ u < I 90 183) : rn (d + 3) 220 [iR (some 88), iI t, iI u] (st h I J) = some (oI (milesK (I 90) (atK (I 90) u) t), st h I J) := by
  have ha := atK_ok k hu
  have hn := k.1
  obtain ⟨v, v1, v2⟩ := k.2.1.2 u.toNat (by omega)
  have hw := s_whereIs (d := d + 1) (h := h) (I := I) (J := J) s (s := u) (k := (I 90 183).toNat) (by omega) ⟨v, by omega, by show I 90 v = u; rw [v2]; omega⟩
  rw [r_M_milesFor, e_M_milesFor, yck (bT_88 s), hw, kI_o]
  show (if atK (I 90) u = t then _ else _) = _
  by_cases c : atK (I 90) u = t
  · rw [if_pos c]
    unfold milesK
    rw [c, show 120 + (7 * t + t).toNat = 120 + 8 * t.toNat by omega, k.2.2.1.2.2.2 t.toNat (by omega)]
  · rw [if_neg c, yck (bT_88 s)]
    have hmm := s_milesOf (d := d) (h := h) (I := I) (J := J) s (x := atK (I 90) u) (y := t) (by omega) (by omega)
    have e : ((firstAt (I (88 + 2)) u 0 (I 90 183).toNat : Nat) : Int) = atK (I 90) u := rfl
    rw [e, hmm, kI_o]
    unfold milesK
    rw [show (120 + (7 * atK (I 90) u + t)).toNat = 120 + (7 * atK (I 90) u + t).toNat by omega]
/-- the law in force told, or what there is without -/
theorem s_told (s : ShM h 88) (k : KOk (I 90)) (hL : LwR (I 90) L) (hw : ∀ k, bdd (wsL I k)) (hd : Int) {top wo : Int} (htop : 0 ≤ top ∧ top ≤ 99) (hwo : bdd wo) : ∃ I', AsFr I' I ∧ I' 100 = I 100 ∧ rn (d + 43) 219 [iR (some 88), iI hd, iI top, iI wo] (st h I J) = some (oI (tellK L (wsL I) (hd + 3) top wo), st h I' J) := by
  rcases hL with ⟨a1, a2⟩ | ⟨f, cc, CL, a1, a2, a3, a4⟩
  · subst a2
    refine ⟨I, AsFr.rf I, rfl, ?_⟩
    rw [r_M_tells, e_M_tells, ygR (bT_88 s) (bR_2 s), xB_s, zAI (i := 186) (j := 186) (bT_90 s) (bL_90 s) rfl (by omega), a1, if_pos rfl]
    rfl
  · subst a3
    exact s_tells s ⟨a1, a2⟩ a4 k.1 hw hd htop hwo
theorem ask_fr (I : Nat → Nat → Int) (f : Nat → Int) : AsFr (rowUp I 100 9 f) I := ⟨fun b q1 q2 => funext fun k => if_neg fun z => q2 z.1, fun i _ _ _ _ => if_neg fun z => absurd z.1 (by omega)⟩
theorem ask_90 (I : Nat → Nat → Int) (f : Nat → Int) : rowUp I 100 9 f 90 = I 90 := (ask_fr I f).1 90 (by omega) (by omega)
theorem milesK_in {K : Nat → Int} (k : KOk K) {p t : Int} (hp : 0 ≤ p ∧ p < 7) (ht : 0 ≤ t ∧ t < 7) : 0 ≤ milesK K p t ∧ milesK K p t ≤ 99 := (k.2.2.1.2.1 (7 * p + t).toNat (by omega)).2.2
theorem m_like (s : ShM h 88) (k : KOk (I 90)) (hL : LwR (I 90) L) {t u : Int} (ht : 0 ≤ t ∧ t < I 90 183) (hu : 0 ≤ u ∧ u < I 90 183) : ∃ I', AsFr I' I ∧ rn (d + 44) 221 [iR (some 88), iI t, iI u] (st h I J) = some (oI (likeK (I 90) L t u), st h I' J) := by
  have hn := k.1
  have ha := atK_ok k hu
  have hb := (k.2.2.1.1 u.toNat (by omega)).1
  have hmi := milesK_in k (p := atK (I 90) u) (t := t) (by omega) (by omega)
  obtain ⟨I1, b1, b2, b3⟩ := s_told (d := d) (J := J) (I := rowUp I 100 9 (askW (I 90) t u (milesK (I 90) (atK (I 90) u) t))) s (by rw [ask_90]; exact k) (by rw [ask_90]; exact hL) (fun j => by rw [ask_ws]; exact wordsK_bd k (by omega) (by omega) hmi j) 1 (top := 99) (wo := I 90 (7 + u.toNat)) (by omega) (by unfold bdd; omega)
  refine ⟨I1, b1.tr (ask_fr _ _), ?_⟩
  rw [ask_ws] at b3
  rw [r_M_likesOf, e_M_likesOf, yck (bT_88 s), s_milesFor (d := d + 40) s k ht hu, kI_o, yck (bT_88 s), s_setsAsked (d := d + 41) s (by omega) (by omega), kV_o, ygR (bT_88 s) (bR_2 s), xB_s, zAI (i := 7 + u.toNat) (bT_90 s) (bL_90 s) (by rw [wr_id (by omega) (by omega)]; omega) (by omega), ask_90, yck (bT_88 s), b3, kI_o]
  rfl
theorem m_alt (s : ShM h 88) (k : KOk (I 90)) (hL : LwR (I 90) L) {t u : Int} (ht : 0 ≤ t ∧ t < I 90 183) (hu : 0 ≤ u ∧ u < I 90 183) : ∃ I', AsFr I' I ∧ rn (d + 44) 222 [iR (some 88), iI t, iI u] (st h I J) = some (oI (altK (I 90) L t u), st h I' J) := by
  have hn := k.1
  have hb := (k.2.2.1.1 u.toNat (by omega)).1
  obtain ⟨I1, b1, b2, b3⟩ := s_told (d := d) (J := J) (I := rowUp I 100 9 (askW (I 90) t u 0)) s (by rw [ask_90]; exact k) (by rw [ask_90]; exact hL) (fun j => by rw [ask_ws]; exact wordsK_bd k (by omega) (by omega) (by omega) j) 2 (top := 9) (wo := I 90 (7 + u.toNat)) (by omega) (by unfold bdd; omega)
  refine ⟨I1, b1.tr (ask_fr _ _), ?_⟩
  rw [ask_ws] at b3
  rw [r_M_altersOf, e_M_altersOf, yck (bT_88 s), s_setsAsked (d := d + 41) s (by omega) (by omega), kV_o, ygR (bT_88 s) (bR_2 s), xB_s, zAI (i := 7 + u.toNat) (bT_90 s) (bL_90 s) (by rw [wr_id (by omega) (by omega)]; omega) (by omega), ask_90, yck (bT_88 s), b3, kI_o]
  rfl
theorem m_bar (s : ShM h 88) (k : KOk (I 90)) (hL : LwR (I 90) L) {t u p : Int} (ht : 0 ≤ t ∧ t < 7) (hu : 0 ≤ u ∧ u < 7) (hp : 0 ≤ p ∧ p < 7) : ∃ I', AsFr I' I ∧ rn (d + 44) 223 [iR (some 88), iI t, iI u, iI p] (st h I J) = some (oI (if barK (I 90) L t u p = 1 then 1 else 0), st h I' J) := by
  have hmi := milesK_in k hp ht
  obtain ⟨I1, b1, b2, b3⟩ := s_told (d := d) (J := J) (I := rowUp I 100 9 (askW (I 90) t u (milesK (I 90) p t))) s (by rw [ask_90]; exact k) (by rw [ask_90]; exact hL) (fun j => by rw [ask_ws]; exact wordsK_bd k ht hu hmi j) 3 (top := 1) (wo := 0) (by omega) bdd_0
  refine ⟨I1, b1.tr (ask_fr _ _), ?_⟩
  rw [ask_ws] at b3
  have hmm := s_milesOf (d := d + 41) (h := h) (I := I) (J := J) s (x := p) (y := t) hp ht
  have em : I (88 + 2) (120 + (7 * p + t)).toNat = milesK (I 90) p t := by
    unfold milesK
    rw [show (120 + (7 * p + t)).toNat = 120 + (7 * p + t).toNat by omega]
  rw [em] at hmm
  rw [r_M_barredFrom, e_M_barredFrom, yck (bT_88 s), hmm, kI_o, yck (bT_88 s), s_setsAsked (d := d + 41) s ht hu, kV_o, yck (bT_88 s), b3, kI_o]
  show (if barK (I 90) L t u p = 1 then _ else _) = _
  by_cases c : barK (I 90) L t u p = 1
  · rw [if_pos c, if_pos c, xZ_1]
  · rw [if_neg c, if_neg c, xZ_0]
theorem m_send (s : ShM h 88) (k : KOk (I 90)) (hL : LwR (I 90) L) {u p t : Int} (hu : 0 ≤ u ∧ u < 7) (hp : 0 ≤ p ∧ p < 7) (ht : 0 ≤ t ∧ t < 7) : ∃ I', AsFr I' I ∧ rn (d + 45) 224 [iR (some 88), iI u, iI p, iI t] (st h I J) = some (oI (sendK (I 90) L u p t), st h I' J) := by
  have hop := s_isOpen (d := d + 41) (h := h) (I := I) (J := J) s (x := p) (y := t) hp ht
  have e1 : I (88 + 2) (120 + (7 * p + t)).toNat = milesK (I 90) p t := by
    unfold milesK
    rw [show (120 + (7 * p + t)).toNat = 120 + (7 * p + t).toNat by omega]
  have e2 : I (88 + 2) (63 + (7 * p + t)).toNat = I 90 (63 + (7 * p + t).toNat) := by
    rw [show (63 + (7 * p + t)).toNat = 63 + (7 * p + t).toNat by omega]
  rw [e1, e2] at hop
  unfold sendK
  rw [r_M_canSend, e_M_canSend, yck (bT_88 s), hop, kI_o]
  by_cases c : 0 < milesK (I 90) p t ∧ I 90 (63 + (7 * p + t).toNat) = 0
  · obtain ⟨I1, b1, b2⟩ := m_bar (d := d) (J := J) s k hL ht hu hp
    refine ⟨I1, b1, ?_⟩
    rw [if_pos c, if_neg (by decide), yck (bT_88 s), b2, kI_o]
    by_cases c2 : barK (I 90) L t u p = 1
    · rw [if_pos c2, if_neg (by decide), xZ_0, if_neg (fun z => z.2 c2)]
    · rw [if_neg c2, if_pos rfl, xZ_1, if_pos ⟨c, c2⟩]
  · refine ⟨I, AsFr.rf I, ?_⟩
    rw [if_neg c, if_pos rfl, xZ_0, if_neg (fun z => c z.1)]
theorem m_have (s : ShM h 88) (k : KOk (I 90)) (hL : LwR (I 90) L) {t u : Int} (ht : 0 ≤ t ∧ t < I 90 183) (hu : 0 ≤ u ∧ u < I 90 183) : ∃ I', AsFr I' I ∧ rn (d + 46) 225 [iR (some 88), iI t, iI u] (st h I J) = some (oI (haveK (I 90) L t u), st h I' J) := by
  have ha := atK_ok k hu
  have hn := k.1
  obtain ⟨v, v1, v2⟩ := k.2.1.2 u.toNat (by omega)
  have hw := s_whereIs (d := d + 44) (h := h) (I := I) (J := J) s (s := u) (k := (I 90 183).toNat) (by omega) ⟨v, by omega, by show I 90 v = u; rw [v2]; omega⟩
  have e : ((firstAt (I (88 + 2)) u 0 (I 90 183).toNat : Nat) : Int) = atK (I 90) u := rfl
  rw [e] at hw
  unfold haveK
  rw [r_M_canHave, e_M_canHave, yck (bT_88 s), hw, kI_o]
  by_cases c : atK (I 90) u = t
  · exact ⟨I, AsFr.rf I, by rw [if_pos c, if_pos c, xZ_1]⟩
  · obtain ⟨I1, b1, b2⟩ := m_send (d := d) (J := J) s k hL (u := u) (p := atK (I 90) u) (t := t) (by omega) (by omega) (by omega)
    refine ⟨I1, b1, ?_⟩
    rw [if_neg c, if_neg c, yck (bT_88 s), b2, kI_o]
    unfold sendK
    split
    · rw [if_neg (by decide), xZ_1]
    · rw [if_pos rfl, xZ_0]
end P79
