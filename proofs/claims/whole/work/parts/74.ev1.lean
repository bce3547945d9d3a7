/-! The reference tells what SUMS mean (by program, wip/whole/gen74.py) -/
section P74a
theorem tdiv_bd {l r : Int} (hl : bdd l) : bdd (Int.tdiv l r) := by
  have h := Int.natAbs_tdiv_le_natAbs l r
  unfold bdd at hl ⊢
  omega
theorem tmod_bd {l r : Int} (hl : bdd l) : bdd (Int.tmod l r) := by
  have h := Int.natAbs_tmod l r
  have h2 := Nat.mod_le l.natAbs r.natAbs
  unfold bdd at hl ⊢
  omega
theorem mul_bd2 {l r : Int} (hl : bdd l) (hr : bdd r) : -1000000000000000000 ≤ l * r ∧ l * r ≤ 1000000000000000000 := by
  unfold bdd at hl hr
  have h : (l * r).natAbs ≤ 1000000000 * 1000000000 := by
    rw [Int.natAbs_mul]
    exact Nat.mul_le_mul (by omega) (by omega)
  omega
/-- two numbers brought together, the divisor never 0 -/
def rwU (op v w : Int) : Int := if op = 2 then v + w else if op = 3 then v - w else if op = 4 then v * w else if op = 5 then Int.tdiv v (if w = 0 then 1 else w) else Int.tmod v (if w = 0 then 1 else w)
def rwB (op lv b w : Int) : Int := if ((op = 5 ∨ op = 6) ∧ w = 0) ∧ lv = 1 then 1 else b
def bnV (lv b u : Int) : Int := if b = 1 ∨ (lv ≠ 0 ∧ ¬ bdd u) then 0 else u
def bnB (lv b u : Int) : Int := if lv ≠ 0 ∧ ¬ bdd u then 1 else b
theorem bdd_0 : bdd 0 := by unfold bdd; omega
theorem bdd_1 : bdd 1 := by unfold bdd; omega
theorem bdd_nb {x : Int} (h : bdd x) : x ≠ BRK := by
  unfold bdd at h
  have hb : BRK = -2147483648 := rfl
  omega
theorem rwU_0 (op : Int) : rwU op 0 0 = 0 := by
  unfold rwU
  (repeat' split) <;> rfl
theorem rwU_bd {op v w : Int} (hv : bdd v) (hw : bdd w) : -1000000000000000000 ≤ rwU op v w ∧ rwU op v w ≤ 1000000000000000000 := by
  have h1 := mul_bd2 hv hw
  have h2 := tdiv_bd (r := if w = 0 then 1 else w) hv
  have h3 := tmod_bd (r := if w = 0 then 1 else w) hv
  unfold rwU
  unfold bdd at hv hw h2 h3
  by_cases c2 : op = 2
  · rw [if_pos c2]; omega
  rw [if_neg c2]
  by_cases c3 : op = 3
  · rw [if_pos c3]; omega
  rw [if_neg c3]
  by_cases c4 : op = 4
  · rw [if_pos c4]; omega
  rw [if_neg c4]
  by_cases c5 : op = 5
  · rw [if_pos c5]; omega
  · rw [if_neg c5]; omega
theorem comb_rw {op x y : Int} (hop : 2 ≤ op ∧ op ≤ 6) (hx : bdd x) (hy : bdd y) : comb op x y = if (op = 5 ∨ op = 6) ∧ y = 0 then BRK else if bdd (rwU op x y) then rwU op x y else BRK := by
  unfold comb
  by_cases c : (op = 5 ∨ op = 6) ∧ y = 0
  · rw [if_pos c, if_pos c]
  · rw [if_neg c, if_neg c]
    have e : combV op x y = rwU op x y := by
      have h2 := tdiv_bd (r := y) hx
      have h3 := tmod_bd (r := y) hx
      unfold bdd at h2 h3
      unfold combV rwU
      by_cases c2 : op = 2
      · rw [if_pos c2, if_pos c2]
      rw [if_neg c2, if_neg c2]
      by_cases c3 : op = 3
      · rw [if_pos c3, if_pos c3]
      rw [if_neg c3, if_neg c3]
      by_cases c4 : op = 4
      · rw [if_pos c4, if_pos c4]
      rw [if_neg c4, if_neg c4]
      have hy0 : ¬ y = 0 := fun z => c ⟨by omega, z⟩
      rw [if_neg hy0]
      by_cases c5 : op = 5
      · rw [if_pos c5, if_pos c5, wr_id (by omega) (by omega)]
      · rw [if_neg c5, if_neg c5, if_pos (by omega), wr_id (by omega) (by omega)]
    rw [e]
    by_cases q : bdd (rwU op x y)
    · have q2 := q
      unfold bdd at q2
      rw [if_pos q, if_pos ⟨q2.2, q2.1⟩]
    · rw [if_neg q, if_neg (fun z => q ⟨z.2, z.1⟩)]
theorem evJ_bd {lv b x : Int} (h : x = BRK ∨ bdd x) : bdd (evJ lv b x) := by
  unfold evJ
  split
  · exact bdd_0
  · rename_i q
    exact h.resolve_left fun z => q (Or.inr (Or.inr z))
theorem evB_01 {lv b x : Int} (h : b = 0 ∨ b = 1) : evB lv b x = 0 ∨ evB lv b x = 1 := by
  unfold evB
  split
  · exact Or.inr rfl
  · exact h
theorem rwB_01 {op lv b x : Int} (h : b = 0 ∨ b = 1) : rwB op lv b x = 0 ∨ rwB op lv b x = 1 := by
  unfold rwB
  split
  · exact Or.inr rfl
  · exact h
theorem bin_bd {op : Int} {f g : Mng} {ws : Nat → Int} (hop : 2 ≤ op ∧ op ≤ 6) (hx : f ws = BRK ∨ bdd (f ws)) (hy : g ws = BRK ∨ bdd (g ws)) : binF op f g ws = BRK ∨ bdd (binF op f g ws) := by
  unfold binF
  by_cases c1 : f ws = BRK
  · rw [if_pos c1]; exact Or.inl rfl
  by_cases c2 : g ws = BRK
  · rw [if_neg c1, if_pos c2]; exact Or.inl rfl
  rw [if_neg c1, if_neg c2, comb_rw hop (hx.resolve_left c1) (hy.resolve_left c2)]
  split
  · exact Or.inl rfl
  · split
    · rename_i q
      exact Or.inr q
    · exact Or.inl rfl
/-- two values brought together are the value of both brought together -/
theorem bin_ev {op lv b : Int} {f g : Mng} {ws : Nat → Int} (hop : 2 ≤ op ∧ op ≤ 6) (hlv : lv = 0 ∨ lv = 1) (hb : b = 0 ∨ b = 1) (hx : f ws = BRK ∨ bdd (f ws)) (hy : g ws = BRK ∨ bdd (g ws)) :
    bnV lv (rwB op lv (evB lv (evB lv b (f ws)) (g ws)) (evJ lv (evB lv b (f ws)) (g ws))) (rwU op (evJ lv b (f ws)) (evJ lv (evB lv b (f ws)) (g ws))) = evJ lv b (binF op f g ws) ∧
    bnB lv (rwB op lv (evB lv (evB lv b (f ws)) (g ws)) (evJ lv (evB lv b (f ws)) (g ws))) (rwU op (evJ lv b (f ws)) (evJ lv (evB lv b (f ws)) (g ws))) = evB lv b (binF op f g ws) := by
  have h0 : ∀ u, (lv = 1 ∧ u = BRK) ∨ ¬ (lv = 1 ∧ u = BRK) := fun u => Decidable.em _
  rcases hlv with rfl | rfl
  · have e1 : ∀ b x, evJ 0 b x = 0 := fun b x => if_pos (Or.inl rfl)
    have e2 : ∀ b x, evB 0 b x = b := fun b x => if_neg (fun z => absurd z.1 (by decide))
    have e3 : ∀ b x, rwB op 0 b x = b := fun b x => if_neg (fun z => absurd z.2 (by decide))
    simp only [e1, e2, e3, rwU_0]
    unfold bnV bnB
    constructor
    · split <;> rfl
    · rw [if_neg (fun z => z.1 rfl)]
  · rcases hb with rfl | rfl
    · by_cases c1 : f ws = BRK
      · have e0 : binF op f g ws = BRK := if_pos c1
        have e1 : evB 1 0 (f ws) = 1 := if_pos ⟨rfl, c1⟩
        have e2 : ∀ x, evB 1 1 x = 1 := fun x => by unfold evB; split <;> rfl
        have e3 : ∀ x, rwB op 1 1 x = 1 := fun x => by unfold rwB; split <;> rfl
        have e4 : evJ 1 1 (g ws) = 0 := if_pos (Or.inr (Or.inl rfl))
        have e5 : evJ 1 0 (f ws) = 0 := if_pos (Or.inr (Or.inr c1))
        rw [e0, e1, e2, e3, e4, e5, rwU_0 op]
        unfold bnV bnB
        rw [if_pos (Or.inl rfl), if_neg (fun z => z.2 bdd_0)]
        exact ⟨(if_pos (Or.inr (Or.inr rfl))).symm, (if_pos ⟨rfl, rfl⟩).symm⟩
      · have hf := hx.resolve_left c1
        have e1 : evB 1 0 (f ws) = 0 := if_neg fun z => c1 z.2
        have e5 : evJ 1 0 (f ws) = f ws := if_neg (fun z => z.elim (by decide) fun z => z.elim (by decide) c1)
        by_cases c2 : g ws = BRK
        · have e0 : binF op f g ws = BRK := by unfold binF; rw [if_neg c1, if_pos c2]
          have e2 : evB 1 0 (g ws) = 1 := if_pos ⟨rfl, c2⟩
          have e3 : ∀ x, rwB op 1 1 x = 1 := fun x => by unfold rwB; split <;> rfl
          rw [e0, e1, e2, e3, e5]
          unfold bnV bnB
          rw [if_pos (Or.inl rfl)]
          refine ⟨(if_pos (Or.inr (Or.inr rfl))).symm, ?_⟩
          rw [show evB 1 0 BRK = 1 from if_pos ⟨rfl, rfl⟩]
          split <;> rfl
        · have hg := hy.resolve_left c2
          have e0 : binF op f g ws = comb op (f ws) (g ws) := by unfold binF; rw [if_neg c1, if_neg c2]
          have e2 : evB 1 0 (g ws) = 0 := if_neg fun z => c2 z.2
          have e4 : evJ 1 0 (g ws) = g ws := if_neg (fun z => z.elim (by decide) fun z => z.elim (by decide) c2)
          rw [e0, e1, e2, e4, e5, comb_rw hop hf hg]
          by_cases c3 : (op = 5 ∨ op = 6) ∧ g ws = 0
          · have e3 : rwB op 1 0 (g ws) = 1 := if_pos ⟨c3, rfl⟩
            rw [if_pos c3, e3]
            unfold bnV bnB
            rw [if_pos (Or.inl rfl)]
            refine ⟨(if_pos (Or.inr (Or.inr rfl))).symm, ?_⟩
            rw [show evB 1 0 BRK = 1 from if_pos ⟨rfl, rfl⟩]
            split <;> rfl
          · have e3 : rwB op 1 0 (g ws) = 0 := if_neg fun z => c3 z.1
            rw [if_neg c3, e3]
            generalize rwU op (f ws) (g ws) = U
            by_cases c4 : bdd U
            · have c5 := bdd_nb c4
              have k1 : bnV 1 0 U = U := if_neg fun z => z.elim (by decide) fun z => z.2 c4
              have k2 : bnB 1 0 U = 0 := if_neg fun z => z.2 c4
              have k3 : evJ 1 0 U = U := if_neg fun z => z.elim (by decide) fun z => z.elim (by decide) c5
              have k4 : evB 1 0 U = 0 := if_neg fun z => c5 z.2
              rw [k1, k2, if_pos c4, k3, k4]
              exact ⟨rfl, rfl⟩
            · have k1 : bnV 1 0 U = 0 := if_pos (Or.inr ⟨by decide, c4⟩)
              have k2 : bnB 1 0 U = 1 := if_pos ⟨by decide, c4⟩
              rw [k1, k2, if_neg c4]
              exact ⟨(if_pos (Or.inr (Or.inr rfl))).symm, (if_pos ⟨rfl, rfl⟩).symm⟩
    · have e2 : ∀ x, evB 1 1 x = 1 := fun x => by unfold evB; split <;> rfl
      have e3 : ∀ x, rwB op 1 1 x = 1 := fun x => by unfold rwB; split <;> rfl
      have e4 : ∀ x, evJ 1 1 x = 0 := fun x => if_pos (Or.inr (Or.inl rfl))
      simp only [e2, e3, e4, rwU_0]
      unfold bnV bnB
      exact ⟨if_pos (Or.inl rfl), if_neg (fun z => z.2 bdd_0)⟩
end P74a
/-- a method of the reference tells what f reads -/
def EvQ (h : IH) (J : Nat → Nat → Int) (B : Nat → Int) (n c o : Nat) (ord : Int) (run : Int → IH → Option IR) (f : Nat → Nat → RdR) : Prop :=
  ∀ (j l p' l' : Nat) (g : Mng), j ≤ c → f (posT B n j) l = .inr (p', l', g) → ∃ j', (j ≤ j' ∧ j' ≤ c) ∧ posT B n j' = p' ∧ ∀ (I : Nat → Nat → Int) (lv b : Int), EvOk B n c o ord I → (lv = 0 ∨ lv = 1) → (b = 0 ∨ b = 1) → (g (wsM ord I) = BRK ∨ bdd (g (wsM ord I))) ∧ run lv (st h (evI I ((o + j : Nat) : Int) b) J) = some (oJ (evJ lv b (g (wsM ord I))), st h (evI I ((o + j' : Nat) : Int) (evB lv b (g (wsM ord I)))) J)
section P74
variable {d n c o : Nat} {h : IH} {J : Nat → Nat → Int} {B : Nat → Int} {ord : Int}
theorem ev_row (t : EvT B n c) {op : Int → Int} (h1 : op 1001 = 0) (hop : ∀ x, op x = 0 ∨ (2 ≤ op x ∧ op x ≤ 6)) {run : Int → IH → Option IR} {it : Nat → Nat → RdR} (z : EvQ h J B n c o ord run it) {L : Int → Nat → Int → IH → Option IR}
    (hst : ∀ (I : Nat → Nat → Int) (lv b : Int) (j f : Nat) (v : Int), EvOk B n c o ord I → j ≤ c → op (tkC B n (posT B n j)) = 0 → L lv (f + 1) v (st h (evI I ((o + j : Nat) : Int) b) J) = some (oJ v, st h (evI I ((o + j : Nat) : Int) b) J))
    (hgo : ∀ (I : Nat → Nat → Int) (lv b : Int) (j f j1 : Nat) (v w b1 : Int), EvOk B n c o ord I → j < c → j1 ≤ c → (lv = 0 ∨ lv = 1) → (b1 = 0 ∨ b1 = 1) → bdd v → bdd w → op (tkC B n (posT B n j)) ≠ 0 → run lv (st h (evI I ((o + (j + 1) : Nat) : Int) b) J) = some (oJ w, st h (evI I ((o + j1 : Nat) : Int) b1) J) → ∃ f', f ≤ f' ∧ L lv (f + 3) v (st h (evI I ((o + j : Nat) : Int) b) J) = L lv f' (bnV lv (rwB (op (tkC B n (posT B n j))) lv b1 w) (rwU (op (tkC B n (posT B n j))) v w)) (st h (evI I ((o + j1 : Nat) : Int) (bnB lv (rwB (op (tkC B n (posT B n j))) lv b1 w) (rwU (op (tkC B n (posT B n j))) v w))) J)) :
    ∀ (k j l p' l' : Nat) (f g : Mng), n - posT B n j ≤ k → j ≤ c → rwRow B n op it k (posT B n j) l f = .inr (p', l', g) → ∃ j', (j ≤ j' ∧ j' ≤ c) ∧ posT B n j' = p' ∧ ∀ (I : Nat → Nat → Int) (lv b : Int), EvOk B n c o ord I → (lv = 0 ∨ lv = 1) → (b = 0 ∨ b = 1) → (f (wsM ord I) = BRK ∨ bdd (f (wsM ord I))) → (g (wsM ord I) = BRK ∨ bdd (g (wsM ord I))) ∧ ∀ fu, 3 * k + 3 ≤ fu → L lv fu (evJ lv b (f (wsM ord I))) (st h (evI I ((o + j : Nat) : Int) (evB lv b (f (wsM ord I)))) J) = some (oJ (evJ lv b (g (wsM ord I))), st h (evI I ((o + j' : Nat) : Int) (evB lv b (g (wsM ord I)))) J) := by
  intro k
  induction k with
  | zero =>
    intro j l p' l' f g hk hj hr
    have hp := posT_le (B := B) (n := n) j
    have hpn : ¬ (tkC B n (posT B n j) ≠ 1001) := fun q => by
      have := tkE_lt hp q
      omega
    have hc : tkC B n (posT B n j) = 1001 := Decidable.not_not.mp hpn
    have hr2 : (Sum.inr (posT B n j, l, f) : RdR) = .inr (p', l', g) := hr
    cases hr2
    refine ⟨j, ⟨Nat.le_refl _, hj⟩, rfl, fun I lv b e hlv hb hf => ⟨hf, fun fu hfu => ?_⟩⟩
    obtain ⟨fu, rfl⟩ : ∃ q, fu = q + 1 := ⟨fu - 1, by omega⟩
    exact hst I lv _ j fu _ e hj (by rw [hc]; exact h1)
  | succ k ih =>
    intro j l p' l' f g hk hj hr
    have hp := posT_le (B := B) (n := n) j
    by_cases c0 : op (tkC B n (posT B n j)) = 0
    · have e : rwRow B n op it (k + 1) (posT B n j) l f = .inr (posT B n j, l, f) := if_pos c0
      rw [e] at hr
      cases hr
      refine ⟨j, ⟨Nat.le_refl _, hj⟩, rfl, fun I lv b e hlv hb hf => ⟨hf, fun fu hfu => ?_⟩⟩
      obtain ⟨fu, rfl⟩ : ∃ q, fu = q + 1 := ⟨fu - 1, by omega⟩
      exact hst I lv _ j fu _ e hj c0
    · have hc : tkC B n (posT B n j) ≠ 1001 := fun q => c0 (by rw [q]; exact h1)
      have hpe := tkE_lt hp hc
      have hj1 := (t.end hj).mpr hc
      have hop1 := (hop (tkC B n (posT B n j))).resolve_left c0
      have e : rwRow B n op it (k + 1) (posT B n j) l f = (match it (posT B n (j + 1)) l with
        | .inl q => .inl q
        | .inr (p', l', g) => rwRow B n op it k p' l' (binF (op (tkC B n (posT B n j))) f g)) := if_neg c0
      rw [e] at hr
      cases e1 : it (posT B n (j + 1)) l with
      | inl q =>
        rw [e1] at hr
        cases hr
      | inr x =>
        obtain ⟨p1, l1, f1⟩ := x
        rw [e1] at hr
        obtain ⟨j1, a1, a2, a3⟩ := z (j + 1) l p1 l1 f1 (by omega) e1
        subst a2
        have hmono : posT B n (j + 1) ≤ posT B n j1 := by
          have := posT_mono (B := B) (n := n) (i := j + 1) (j1 - (j + 1))
          rwa [show j + 1 + (j1 - (j + 1)) = j1 by omega] at this
        have he : posT B n (j + 1) = tkE B n (posT B n j) := rfl
        obtain ⟨j', b1, b2, b3⟩ := ih j1 l1 p' l' (binF (op (tkC B n (posT B n j))) f f1) g (by omega) a1.2 hr
        refine ⟨j', ⟨by omega, b1.2⟩, b2, fun I lv b e hlv hb hf => ?_⟩
        obtain ⟨g1, g2⟩ := a3 I lv (evB lv b (f (wsM ord I))) e hlv (evB_01 hb)
        obtain ⟨q1, q2⟩ := bin_ev hop1 hlv hb hf g1
        obtain ⟨k1, k2⟩ := b3 I lv b e hlv hb (bin_bd hop1 hf g1)
        refine ⟨k1, fun fu hfu => ?_⟩
        obtain ⟨fu, rfl⟩ : ∃ q, fu = q + 3 := ⟨fu - 3, by omega⟩
        obtain ⟨f', m1, m2⟩ := hgo I lv _ j fu j1 (evJ lv b (f (wsM ord I))) _ _ e hj1 a1.2 hlv (evB_01 (evB_01 hb)) (evJ_bd hf) (evJ_bd g1) c0 g2
        rw [m2, q1, q2]
        exact k2 f' (by omega)
theorem ev_rows (t : EvT B n c) {op : Int → Int} (h1 : op 1001 = 0) (hop : ∀ x, op x = 0 ∨ (2 ≤ op x ∧ op x ≤ 6)) {run top : Int → IH → Option IR} {it : Nat → Nat → RdR} (z : EvQ h J B n c o ord run it) {L : Int → Nat → Int → IH → Option IR}
    (hst : ∀ (I : Nat → Nat → Int) (lv b : Int) (j f : Nat) (v : Int), EvOk B n c o ord I → j ≤ c → op (tkC B n (posT B n j)) = 0 → L lv (f + 1) v (st h (evI I ((o + j : Nat) : Int) b) J) = some (oJ v, st h (evI I ((o + j : Nat) : Int) b) J))
    (hgo : ∀ (I : Nat → Nat → Int) (lv b : Int) (j f j1 : Nat) (v w b1 : Int), EvOk B n c o ord I → j < c → j1 ≤ c → (lv = 0 ∨ lv = 1) → (b1 = 0 ∨ b1 = 1) → bdd v → bdd w → op (tkC B n (posT B n j)) ≠ 0 → run lv (st h (evI I ((o + (j + 1) : Nat) : Int) b) J) = some (oJ w, st h (evI I ((o + j1 : Nat) : Int) b1) J) → ∃ f', f ≤ f' ∧ L lv (f + 3) v (st h (evI I ((o + j : Nat) : Int) b) J) = L lv f' (bnV lv (rwB (op (tkC B n (posT B n j))) lv b1 w) (rwU (op (tkC B n (posT B n j))) v w)) (st h (evI I ((o + j1 : Nat) : Int) (bnB lv (rwB (op (tkC B n (posT B n j))) lv b1 w) (rwU (op (tkC B n (posT B n j))) v w))) J))
    (htop : ∀ (I : Nat → Nat → Int) (lv : Int), top lv (st h I J) = kJ (run lv (st h I J)) fun x g => L lv 999999 x g) : EvQ h J B n c o ord top (rwRows B n op it) := by
  intro j l p' l' g hj hr
  unfold rwRows at hr
  cases e1 : it (posT B n j) l with
  | inl q =>
    rw [e1] at hr
    cases hr
  | inr x =>
    obtain ⟨p1, l1, f1⟩ := x
    rw [e1] at hr
    obtain ⟨j1, a1, a2, a3⟩ := z j l p1 l1 f1 hj e1
    subst a2
    obtain ⟨j', b1, b2, b3⟩ := ev_row t h1 hop z hst hgo (n - posT B n j1) j1 l1 p' l' f1 g (Nat.le_refl _) a1.2 hr
    refine ⟨j', ⟨by omega, b1.2⟩, b2, fun I lv b e hlv hb => ?_⟩
    obtain ⟨g1, g2⟩ := a3 I lv b e hlv hb
    obtain ⟨k1, k2⟩ := b3 I lv b e hlv hb g1
    have hn := t.2.1
    refine ⟨k1, ?_⟩
    rw [htop, g2, kJ_o]
    exact k2 999999 (by omega)
theorem opS_26 (x : Int) : opS x = 0 ∨ (2 ≤ opS x ∧ opS x ≤ 6) := by
  unfold opS
  (repeat' split) <;> omega
theorem opT_26 (x : Int) : opT x = 0 ∨ (2 ≤ opT x ∧ opT x ≤ 6) := by
  unfold opT
  (repeat' split) <;> omega
theorem ev_sum (s : ShM h 88) (t : EvT B n c) {it : Nat → Nat → RdR} (z : EvQ h J B n c o ord (fun lv g => rn (d + 5) 211 [iR (some 88), iI lv] g) it) : EvQ h J B n c o ord (fun lv g => rn (d + 6) 210 [iR (some 88), iI lv] g) (rwRows B n opS it) := by
  refine ev_rows t (L := fun lv fu v g => lp (d + 5) 210 fu 6 [some (iR (some 88)), some (iI lv), some (iJ v), none, none, none, none] [] g) (by decide) opS_26 z ?_ ?_ ?_
  · intro I lv b j f v e hj hc
    have q1 : ¬ cdM B n (posT B n j) = 100 + 43 := fun y => by
      rw [(tr_sign t.1 (c := 43) (by omega)).mp y] at hc
      exact absurd hc (by decide)
    have q2 : ¬ cdM B n (posT B n j) = 100 + 45 := fun y => by
      rw [(tr_sign t.1 (c := 45) (by omega)).mp y] at hc
      exact absurd hc (by decide)
    try dsimp only
    rw [e_M_sumOf_6, ygI (bT_88 s), evI_g, yck (bT_88 s), s_codeAt (d := d + 4) s e hj, kI_o, s_signM (d := d + 4) _ (by omega), kI_o, if_neg q1, ygI (bT_88 s), evI_g, yck (bT_88 s), s_codeAt (d := d + 4) s e hj, kI_o, s_signM (d := d + 4) _ (by omega), kI_o, if_neg q2]
  · intro I lv b j f j1 v w b1 e hj hj1 hlv hb1 hv hw hc hr
    have e3 := e.2.1.2.2
    have hcn := t.2.1
    have w1 : wr (((o + j : Nat) : Int) + 1) = ((o + (j + 1) : Nat) : Int) := by rw [wr_id (by omega) (by omega)]; omega
    try dsimp only at hr ⊢
    refine ⟨f + 1, by omega, ?_⟩
    by_cases q1 : tkC B n (posT B n j) = 43
    · have p1 : cdM B n (posT B n j) = 100 + 43 := (tr_sign t.1 (c := 43) (by omega)).mpr q1
      have o1 : opS (tkC B n (posT B n j)) = 2 := by rw [q1]; rfl
      rw [o1]
      have o2 : rwB 2 lv b1 w = b1 := if_neg (fun z => by omega)
      have o3 : rwU 2 v w = v + w := if_pos rfl
      unfold bdd at hv hw
      rw [o2, o3, e_M_sumOf_6, ygI (bT_88 s), evI_g, yck (bT_88 s), s_codeAt (d := d + 4) s e (by omega), kI_o, s_signM (d := d + 4) _ (by omega), kI_o, if_pos p1, ygI (bT_88 s), evI_g, yck (bT_88 s), s_codeAt (d := d + 4) s e (by omega), kI_o, s_signM (d := d + 4) _ (by omega), kI_o, if_pos p1, e_M_sumOf_59, ygI (bT_88 s), evI_g, ypI (bT_88 s) (by omega), evI_go, w1, yck (bT_88 s), hr, kJ_o, if_neg (by decide), yck (bT_88 s), wl_id (by omega) (by omega), s_bounded (d := d + 4) s hb1, kJ_o]
      rfl
    · have q2 : tkC B n (posT B n j) = 45 := by
        unfold opS at hc
        rw [if_neg q1] at hc
        by_cases y : tkC B n (posT B n j) = 45
        · exact y
        · rw [if_neg y] at hc
          exact absurd rfl hc
      have p1 : ¬ cdM B n (posT B n j) = 100 + 43 := fun y => q1 ((tr_sign t.1 (c := 43) (by omega)).mp y)
      have p2 : cdM B n (posT B n j) = 100 + 45 := (tr_sign t.1 (c := 45) (by omega)).mpr q2
      have o1 : opS (tkC B n (posT B n j)) = 3 := by rw [q2]; rfl
      rw [o1]
      have o2 : rwB 3 lv b1 w = b1 := if_neg (fun z => by omega)
      have o3 : rwU 3 v w = v - w := rfl
      unfold bdd at hv hw
      rw [o2, o3, e_M_sumOf_6, ygI (bT_88 s), evI_g, yck (bT_88 s), s_codeAt (d := d + 4) s e (by omega), kI_o, s_signM (d := d + 4) _ (by omega), kI_o, if_neg p1, ygI (bT_88 s), evI_g, yck (bT_88 s), s_codeAt (d := d + 4) s e (by omega), kI_o, s_signM (d := d + 4) _ (by omega), kI_o, if_pos p2, ygI (bT_88 s), evI_g, yck (bT_88 s), s_codeAt (d := d + 4) s e (by omega), kI_o, s_signM (d := d + 4) _ (by omega), kI_o, if_neg p1, e_M_sumOf_59, ygI (bT_88 s), evI_g, ypI (bT_88 s) (by omega), evI_go, w1, yck (bT_88 s), hr, kJ_o, if_pos rfl, yck (bT_88 s), wl_id (by omega) (by omega), s_bounded (d := d + 4) s hb1, kJ_o]
      rfl
  · intro I lv
    try dsimp only
    rw [r_M_sumOf, e_M_sumOf, yck (bT_88 s)]
theorem ev_term (s : ShM h 88) (t : EvT B n c) {it : Nat → Nat → RdR} (z : EvQ h J B n c o ord (fun lv g => rn (d + 4) 212 [iR (some 88), iI lv] g) it) : EvQ h J B n c o ord (fun lv g => rn (d + 5) 211 [iR (some 88), iI lv] g) (rwRows B n opT it) := by
  refine ev_rows t (L := fun lv fu v g => lp (d + 4) 211 fu 6 [some (iR (some 88)), some (iI lv), some (iJ v), none, none, none, none] [] g) (by decide) opT_26 z ?_ ?_ ?_
  · intro I lv b j f v e hj hc
    have q1 : ¬ cdM B n (posT B n j) = 100 + 42 := fun y => by
      rw [(tr_sign t.1 (c := 42) (by omega)).mp y] at hc
      exact absurd hc (by decide)
    have q2 : ¬ cdM B n (posT B n j) = 100 + 47 := fun y => by
      rw [(tr_sign t.1 (c := 47) (by omega)).mp y] at hc
      exact absurd hc (by decide)
    have q3 : ¬ cdM B n (posT B n j) = 100 + 37 := fun y => by
      rw [(tr_sign t.1 (c := 37) (by omega)).mp y] at hc
      exact absurd hc (by decide)
    try dsimp only
    rw [e_M_termOf_6, ygI (bT_88 s), evI_g, yck (bT_88 s), s_codeAt (d := d + 3) s e hj, kI_o, s_signM (d := d + 3) _ (by omega), kI_o, if_neg q1, ygI (bT_88 s), evI_g, yck (bT_88 s), s_codeAt (d := d + 3) s e hj, kI_o, s_signM (d := d + 3) _ (by omega), kI_o, if_neg q2, ygI (bT_88 s), evI_g, yck (bT_88 s), s_codeAt (d := d + 3) s e hj, kI_o, s_signM (d := d + 3) _ (by omega), kI_o, if_neg q3]
  · intro I lv b j f j1 v w b1 e hj hj1 hlv hb1 hv hw hc hr
    have e3 := e.2.1.2.2
    have hcn := t.2.1
    have w1 : wr (((o + j : Nat) : Int) + 1) = ((o + (j + 1) : Nat) : Int) := by rw [wr_id (by omega) (by omega)]; omega
    try dsimp only at hr ⊢
    refine ⟨f, Nat.le_refl _, ?_⟩
    -- up to the cut 54
    have hd : lp (d + 4) 211 (f + 3) 6 [some (iR (some 88)), some (iI lv), some (iJ v), none, none, none, none] [] (st h (evI I ((o + j : Nat) : Int) b) J) = lp (d + 4) 211 (f + 2) 54 [some (iR (some 88)), some (iI lv), some (iJ v), none, none, none, none] [] (st h (evI I ((o + j : Nat) : Int) b) J) := by
      rw [e_M_termOf_6, ygI (bT_88 s), evI_g, yck (bT_88 s), s_codeAt (d := d + 3) s e (by omega), kI_o, s_signM (d := d + 3) _ (by omega), kI_o]
      by_cases q1 : cdM B n (posT B n j) = 100 + 42
      · rw [if_pos q1]
      rw [if_neg q1, ygI (bT_88 s), evI_g, yck (bT_88 s), s_codeAt (d := d + 3) s e (by omega), kI_o, s_signM (d := d + 3) _ (by omega), kI_o]
      by_cases q2 : cdM B n (posT B n j) = 100 + 47
      · rw [if_pos q2]
      rw [if_neg q2, ygI (bT_88 s), evI_g, yck (bT_88 s), s_codeAt (d := d + 3) s e (by omega), kI_o, s_signM (d := d + 3) _ (by omega), kI_o]
      by_cases q3 : cdM B n (posT B n j) = 100 + 37
      · rw [if_pos q3]
      exfalso
      refine hc ?_
      unfold opT
      rw [if_neg (fun y => q1 ((tr_sign t.1 (c := 42) (by omega)).mpr y)), if_neg (fun y => q2 ((tr_sign t.1 (c := 47) (by omega)).mpr y)), if_neg (fun y => q3 ((tr_sign t.1 (c := 37) (by omega)).mpr y))]
    -- behind both, at the cut 121
    have tl : ∀ (w2 b2 : Int), (b2 = 0 ∨ b2 = 1) → bdd w2 → (opT (tkC B n (posT B n j)) = 4 ∨ w2 ≠ 0) → lp (d + 4) 211 (f + 1) 121 [some (iR (some 88)), some (iI lv), some (iJ v), none, some (iI (cdM B n (posT B n j))), some (iJ w2), none] [] (st h (evI I ((o + j1 : Nat) : Int) b2) J) = lp (d + 4) 211 f 6 [some (iR (some 88)), some (iI lv), some (iJ (bnV lv b2 (rwU (opT (tkC B n (posT B n j))) v w2))), none, none, none, none] [] (st h (evI I ((o + j1 : Nat) : Int) (bnB lv b2 (rwU (opT (tkC B n (posT B n j))) v w2))) J) := by
      intro w2 b2 hb2 hw2 hw0
      have m1 := mul_bd2 hv hw2
      have m2 := tdiv_bd (r := w2) hv
      have m3 := tmod_bd (r := w2) hv
      unfold bdd at m2 m3
      rw [e_M_termOf_121, s_signM (d := d + 3) _ (by omega), kI_o]
      by_cases q1 : tkC B n (posT B n j) = 42
      · have o1 : opT (tkC B n (posT B n j)) = 4 := by rw [q1]; rfl
        rw [if_pos ((tr_sign t.1 (c := 42) (by omega)).mpr q1), yck (bT_88 s), wl_id (by omega) (by omega), s_bounded (d := d + 3) s hb2, kJ_o, o1]
        rfl
      rw [if_neg (fun y => q1 ((tr_sign t.1 (c := 42) (by omega)).mp y)), s_signM (d := d + 3) _ (by omega), kI_o]
      by_cases q2 : tkC B n (posT B n j) = 47
      · have o1 : opT (tkC B n (posT B n j)) = 5 := by rw [q2]; rfl
        have hw3 : w2 ≠ 0 := hw0.resolve_left (by omega)
        have o2 : rwU 5 v w2 = Int.tdiv v w2 := by
          unfold rwU
          rw [if_neg (by decide), if_neg (by decide), if_neg (by decide), if_pos rfl, if_neg hw3]
        rw [if_pos ((tr_sign t.1 (c := 47) (by omega)).mpr q2), xdJ_ok hw3, yck (bT_88 s), wl_id (by omega) (by omega), s_bounded (d := d + 3) s hb2, kJ_o, o1, o2]
        rfl
      · have q3 : opT (tkC B n (posT B n j)) = 6 := by
          unfold opT at hc ⊢
          rw [if_neg q1, if_neg q2] at hc ⊢
          by_cases y : tkC B n (posT B n j) = 37
          · rw [if_pos y]
          · rw [if_neg y] at hc
            exact absurd rfl hc
        have hw3 : w2 ≠ 0 := hw0.resolve_left (by omega)
        have o2 : rwU 6 v w2 = Int.tmod v w2 := by
          unfold rwU
          rw [if_neg (by decide), if_neg (by decide), if_neg (by decide), if_neg (by decide), if_neg hw3]
        rw [if_neg (fun y => q2 ((tr_sign t.1 (c := 47) (by omega)).mp y)), xmJ_ok hw3, yck (bT_88 s), wl_id (by omega) (by omega), s_bounded (d := d + 3) s hb2, kJ_o, q3, o2]
        rfl
    rw [hd, e_M_termOf_54, ygI (bT_88 s), evI_g, yck (bT_88 s), s_codeAt (d := d + 3) s e (by omega), kI_o, ygI (bT_88 s), evI_g, ypI (bT_88 s) (by omega), evI_go, w1, yck (bT_88 s), hr, kJ_o, s_signM (d := d + 3) _ (by omega), kI_o]
    by_cases q1 : tkC B n (posT B n j) = 42
    · have o1 : opT (tkC B n (posT B n j)) = 4 := by rw [q1]; rfl
      have o2 : rwB (opT (tkC B n (posT B n j))) lv b1 w = b1 := if_neg (fun z => by omega)
      rw [if_pos ((tr_sign t.1 (c := 42) (by omega)).mpr q1), tl w b1 hb1 hw (Or.inl o1), o2]
    have o56 : opT (tkC B n (posT B n j)) = 5 ∨ opT (tkC B n (posT B n j)) = 6 := by
      unfold opT at hc ⊢
      rw [if_neg q1] at hc ⊢
      (repeat' split at hc) <;> (repeat' split) <;> first | omega | exact absurd rfl hc
    rw [if_neg (fun y => q1 ((tr_sign t.1 (c := 42) (by omega)).mp y))]
    have lz : lcmp w 0 = 0 ↔ w = 0 := by
      unfold lcmp
      (repeat' split) <;> omega
    by_cases w0 : w = 0
    · have o3 : rwU (opT (tkC B n (posT B n j))) v w = rwU (opT (tkC B n (posT B n j))) v 1 := by
        rw [w0]
        unfold rwU
        (repeat' split) <;> first | rfl | omega
      rw [if_pos (lz.mpr w0), ygI (bT_88 s), evI_b, o3]
      by_cases hb0 : b1 = 0
      · rw [if_pos hb0]
        by_cases hl0 : lv = 0
        · have o2 : rwB (opT (tkC B n (posT B n j))) lv b1 w = 0 := by
            unfold rwB
            rw [if_neg (fun z => by omega)]
            exact hb0
          rw [if_pos hl0, ypZ (bT_88 s) (by omega) (Or.inl rfl), evI_br, tl 1 0 (Or.inl rfl) bdd_1 (Or.inr (by decide)), o2]
        · have o2 : rwB (opT (tkC B n (posT B n j))) lv b1 w = 1 := if_pos ⟨⟨o56, w0⟩, by omega⟩
          rw [if_neg hl0, ypZ (bT_88 s) (by omega) (Or.inr rfl), evI_br, tl 1 1 (Or.inr rfl) bdd_1 (Or.inr (by decide)), o2]
      · have o2 : rwB (opT (tkC B n (posT B n j))) lv b1 w = 1 := by
          unfold rwB
          split <;> omega
        rw [if_neg hb0, ypZ (bT_88 s) (by omega) (Or.inr rfl), evI_br, tl 1 1 (Or.inr rfl) bdd_1 (Or.inr (by decide)), o2]
    · have o2 : rwB (opT (tkC B n (posT B n j))) lv b1 w = b1 := if_neg (fun z => w0 z.1.2)
      rw [if_neg (fun y => w0 (lz.mp y)), tl w b1 hb1 hw (Or.inr w0), o2]
  · intro I lv
    try dsimp only
    rw [r_M_termOf, e_M_termOf, yck (bT_88 s)]
end P74
