/-! The reference tells what texts mean: small methods (by program, wip/whole/gen73.py) -/
section P73a
variable {h : IH} {I J : Nat → Nat → Int} {a i n : Nat} {j : Int}
theorem zAI {k : Int → Option IR} (e : hT h a = 0) (l : hL h a = n) (q : j = (i : Int)) (hi : i < n) : xaI (st h I J) a j k = k (I a i) := by
  rw [q]
  exact yaN e l hi
theorem up_self (I : Nat → Nat → Int) (a i : Nat) : up I a i (I a i) = I := by
  funext q k
  unfold up
  by_cases z : q = a ∧ k = i
  · rw [if_pos z, z.1, z.2]
  · rw [if_neg z]
end P73a
/-- the reference at the place g of its codes, BROKEN or not -/
def evI (I : Nat → Nat → Int) (g b : Int) : Nat → Nat → Int := up (up I 88 22 g) 88 24 b
section P73b
variable {I : Nat → Nat → Int} {g b x : Int}
theorem evI_na {q : Nat} (hq : q ≠ 88) : evI I g b q = I q := by
  unfold evI
  rw [up_na hq, up_na hq]
theorem evI_ni {i : Nat} (h1 : i ≠ 22) (h2 : i ≠ 24) : evI I g b 88 i = I 88 i := by
  unfold evI
  rw [up_ni h2, up_ni h1]
theorem evI_g : evI I g b 88 22 = g := by
  unfold evI
  rw [up_ni (by omega), up_eq]
theorem evI_b : evI I g b 88 24 = b := by
  unfold evI
  rw [up_eq]
theorem evI_go : up (evI I g b) 88 22 x = evI I x b := by
  unfold evI
  funext q k
  unfold up
  by_cases z : q = 88 ∧ k = 22
  · rw [if_pos z, if_neg (by omega), if_pos z]
  · rw [if_neg z]
    by_cases y : q = 88 ∧ k = 24
    · rw [if_pos y, if_pos y]
    · rw [if_neg y, if_neg y, if_neg z, if_neg z]
theorem evI_br : up (evI I g b) 88 24 x = evI I g x := by
  unfold evI
  rw [up_up]
theorem evI_evI {g2 b2 : Int} : evI (evI I g b) g2 b2 = evI I g2 b2 := by
  rw [show evI (evI I g b) g2 b2 = up (up (evI I g b) 88 22 g2) 88 24 b2 from rfl, evI_go, evI_br]
theorem evI_self : evI I (I 88 22) (I 88 24) = I := by
  unfold evI
  rw [up_self, up_self]
end P73b
/-- the tokens of a text: c of them -/
def EvT (B : Nat → Int) (n c : Nat) : Prop := (∀ i, 0 ≤ B i ∧ B i ≤ 255) ∧ (c ≤ n ∧ n ≤ 400) ∧ (∀ j, j < c → tkF B n (posT B n j) < n) ∧ tkF B n (posT B n c) = n
/-- a text stands in the reference's row, from the place o on -/
def EvR (B : Nat → Int) (n c o : Nat) (K : Nat → Int) : Prop := ∀ k, k < c → K (194 + (o + k)) = cdM B n (posT B n k) ∧ K (2994 + (o + k)) = vlM B n (posT B n k)
/-- what the words of both languages tell -/
def wsL (I : Nat → Nat → Int) (k : Nat) : Int := if k < 9 then I 100 (trC (256 + (k : Int)) - 8).toNat else 0
def wsO (I : Nat → Nat → Int) (k : Nat) : Int :=
  if k = 0 then I 90 112 else if k = 1 then I 88 27 else if k = 2 then I 88 28 else if k = 3 then ((cntSelf (I 90) (I 90 183).toNat : Nat) : Int)
  else if k < 11 then (if ((k - 4 : Nat) : Int) < I 90 183 then I 90 (k - 4) else -1) else (if ((k - 11 : Nat) : Int) < I 90 183 then I 90 (7 + (k - 11)) else -1)
def wsM (ord : Int) (I : Nat → Nat → Int) : Nat → Int := if ord = 0 then wsL I else wsO I
abbrev bdd (x : Int) : Prop := -1000000000 ≤ x ∧ x ≤ 1000000000
def EvOk (B : Nat → Int) (n c o : Nat) (ord : Int) (I : Nat → Nat → Int) : Prop := EvT B n c ∧ (I 88 23 = ((o + c : Nat) : Int) ∧ I 88 25 = ord ∧ o ≤ 2400) ∧ EvR B n c o (I 90) ∧ (0 ≤ I 90 183 ∧ I 90 183 ≤ 7) ∧ ∀ k, k < 18 → bdd (wsM ord I k)
theorem wsM_ev (ord : Int) (I : Nat → Nat → Int) (g b : Int) : wsM ord (evI I g b) = wsM ord I := by
  unfold wsM
  by_cases c : ord = 0
  · rw [if_pos c, if_pos c]
    funext k
    unfold wsL
    rw [evI_na (by omega)]
  · rw [if_neg c, if_neg c]
    funext k
    unfold wsO
    rw [evI_na (by omega), evI_ni (by omega) (by omega), evI_ni (by omega) (by omega)]
section P73
variable {d n c o : Nat} {h : IH} {I J : Nat → Nat → Int} {B : Nat → Int} {ord : Int} {b : Int} {j : Nat} {x : Int}
theorem EvT.end (t : EvT B n c) (hj : j ≤ c) : j < c ↔ tkC B n (posT B n j) ≠ 1001 := by
  refine ⟨fun h z => (tkC_end t.1).mp z (t.2.2.1 j h), fun z => ?_⟩
  have : j ≠ c := fun e => z ((tkC_end t.1).mpr (by rw [e, t.2.2.2]; omega))
  omega
theorem EvT.end0 (t : EvT B n c) : cdM B n (posT B n c) = 0 := by
  have e := t.2.2.2
  have h1 : ¬ tkF B n (posT B n c) < tkD B n (posT B n c) := by
    show ¬ tkF B n (posT B n c) < scT dgB B n (tkF B n (posT B n c))
    rw [e, scT_e (by omega)]
    omega
  unfold cdM
  rw [if_neg h1, if_neg (by omega)]
theorem s_codeAt (s : ShM h 88) (e : EvOk B n c o ord I) (hj : j ≤ c) (g : Int) : rn (d + 1) 207 [iR (some 88), iI ((o + j : Nat) : Int)] (st h (evI I g b) J) = some (oI (cdM B n (posT B n j)), st h (evI I g b) J) := by
  obtain ⟨t, ⟨e1, e2, e3⟩, e4, -⟩ := e
  rw [r_M_codeAt, e_M_codeAt, ygI (bT_88 s), evI_ni (by omega) (by omega), e1]
  have hc := t.2.1
  by_cases q : j < c
  · rw [if_pos (by omega), ygR (bT_88 s) (bR_2 s), xB_s, zAI (i := 194 + (o + j)) (bT_90 s) (bL_90 s) (by rw [wr_id (by omega) (by omega)]; omega) (by omega), evI_na (by omega), (e4 j q).1]
  · rw [if_neg (by omega), show j = c by omega, t.end0]
theorem s_passes0 (s : ShM h 88) (e : EvOk B n c o ord I) (hj : j ≤ c) (x : Int) : rn (d + 2) 208 [iR (some 88), iI x] (st h (evI I ((o + j : Nat) : Int) b) J) = if cdM B n (posT B n j) = x then some (oI 1, st h (evI I ((o + (j + 1) : Nat) : Int) b) J) else some (oI 0, st h (evI I ((o + j : Nat) : Int) b) J) := by
  have e3 := e.2.1.2.2
  have hc := e.1.2.1
  rw [r_M_passes0, e_M_passes0, ygI (bT_88 s), evI_g, yck (bT_88 s), s_codeAt s e hj, kI_o]
  by_cases q : cdM B n (posT B n j) = x
  · rw [if_pos q, if_pos q, if_neg (by decide), ygI (bT_88 s), evI_g, ypI (bT_88 s) (by omega), evI_go, wr_id (by omega) (by omega), xZ_1]
    rfl
  · rw [if_neg q, if_neg q, if_pos rfl, xZ_0]
def evB (lv b x : Int) : Int := if lv = 1 ∧ x = BRK then 1 else b
def evJ (lv b x : Int) : Int := if lv = 0 ∨ b = 1 ∨ x = BRK then 0 else x
theorem s_bounded (s : ShM h 88) {lv g v : Int} (hb : b = 0 ∨ b = 1) : rn (d + 1) 209 [iR (some 88), iJ v, iI lv] (st h (evI I g b) J) = some (oJ (if b = 1 ∨ (lv ≠ 0 ∧ ¬ bdd v) then 0 else v), st h (evI I g (if lv ≠ 0 ∧ ¬ bdd v then 1 else b)) J) := by
  rw [r_M_bounded, e_M_bounded]
  by_cases c1 : lv = 0
  · rw [if_pos c1, ygI (bT_88 s), evI_b, if_neg (show ¬ (lv ≠ 0 ∧ ¬ bdd v) from fun z => z.1 c1)]
    by_cases c2 : b = 0
    · rw [if_pos c2, if_neg (by omega)]
    · rw [if_neg c2, if_pos (by omega)]
  · rw [if_neg c1]
    by_cases c2 : v ≤ 1000000000
    · rw [if_pos ((lcmp_le _ _).mpr c2)]
      by_cases c3 : v < -1000000000
      · have hn : ¬ bdd v := fun z => by unfold bdd at z; omega
        rw [if_pos ((lcmp_lt _ _).mpr c3), ypZ (bT_88 s) (by omega) (Or.inr rfl), ygI (bT_88 s), up_eq, if_neg (by decide), if_pos (Or.inr ⟨c1, hn⟩), if_pos ⟨c1, hn⟩, evI_br]
      · have hn : bdd v := by unfold bdd; omega
        rw [if_neg (fun z => c3 ((lcmp_lt _ _).mp z)), ygI (bT_88 s), evI_b, if_neg (show ¬ (lv ≠ 0 ∧ ¬ bdd v) from fun z => z.2 hn)]
        by_cases c2 : b = 0
        · rw [if_pos c2, if_neg (fun z => z.elim (by omega) (fun q => q.2 hn))]
        · rw [if_neg c2, if_pos (Or.inl (by omega))]
    · have hn : ¬ bdd v := fun z => by unfold bdd at z; omega
      rw [if_neg (fun z => c2 ((lcmp_le _ _).mp z)), ypZ (bT_88 s) (by omega) (Or.inr rfl), ygI (bT_88 s), up_eq, if_neg (by decide), if_pos (Or.inr ⟨c1, hn⟩), if_pos ⟨c1, hn⟩, evI_br]
theorem s_homeMany_l (s : ShM h 88) {m : Nat} (hm : I 90 183 = (m : Int)) (hm7 : m ≤ 7) : ∀ (k j : Nat), j + k = m → ∀ n, k < n → lp (d + 1) 226 n 4 [some (iR (some 88)), some (iI (cntSelf (I 90) j : Nat)), some (iI (j : Nat))] [] (st h I J) = some (oI (cntSelf (I 90) m : Nat), st h I J) := by
  intro k
  induction k with
  | zero =>
    intro j hj n hn
    obtain ⟨n, rfl⟩ : ∃ q, n = q + 1 := ⟨n - 1, by omega⟩
    rw [e_M_homeMany_4, yck (bT_88 s), s_townMany s, kI_o, hm, if_neg (by omega), show j = m by omega]
  | succ k ih =>
    intro j hj n hn
    obtain ⟨n, rfl⟩ : ∃ q, n = q + 1 := ⟨n - 1, by omega⟩
    have hc := cntSelf_le (I 90) j
    have hi := ih (j + 1) (by omega) n (by omega)
    rw [e_M_homeMany_4, yck (bT_88 s), s_townMany s, kI_o, hm, if_pos (by omega), ygR (bT_88 s) (bR_2 s), xB_s, zAI (i := j) (bT_90 s) (bL_90 s) (by rw [wr_id (by omega) (by omega)]; omega) (by omega), wr_id (x := (j : Int) + 1) (by omega) (by omega), wr_id (x := ((cntSelf (I 90) j : Nat) : Int) + 1) (by omega) (by omega), wr_id (x := ((cntSelf (I 90) j : Nat) : Int) + 0) (by omega) (by omega)]
    rw [cntSelf_s] at hi
    by_cases hc : I 90 j = (j : Int)
    · rw [if_pos hc] at hi ⊢
      exact hi
    · rw [if_neg hc] at hi ⊢
      exact hi
theorem s_homeMany (s : ShM h 88) (hm : 0 ≤ I 90 183 ∧ I 90 183 ≤ 7) : rn (d + 2) 226 [iR (some 88)] (st h I J) = some (oI (cntSelf (I 90) (I 90 183).toNat : Nat), st h I J) := by
  rw [r_M_homeMany, e_M_homeMany]
  exact s_homeMany_l s (m := (I 90 183).toNat) (by omega) (by omega) (I 90 183).toNat 0 (by omega) 999999 (by omega)
/-- the codes of the words of ORDERS -/
theorem s_orderV (s : ShM h 88) (hm : 0 ≤ I 90 183 ∧ I 90 183 ≤ 7) {x k : Int} (hx : 15 ≤ x ∧ x ≤ 20) (hk : 0 ≤ k ∧ k ≤ 6) : rn (d + 3) 213 [iR (some 88), iI x, iI k] (st h I J) = some (oI (wsO I (if x = 15 then 11 + k.toNat else if x = 20 then 4 + k.toNat else (x - 16).toNat)), st h I J) := by
  have eb : wsO I (11 + k.toNat) = if k < I 90 183 then I 90 (7 + k.toNat) else -1 := by
    unfold wsO
    rw [if_neg (by omega), if_neg (by omega), if_neg (by omega), if_neg (by omega), if_neg (by omega), show 11 + k.toNat - 11 = k.toNat by omega, show ((k.toNat : Nat) : Int) = k by omega]
  have eh : wsO I (4 + k.toNat) = if k < I 90 183 then I 90 k.toNat else -1 := by
    unfold wsO
    rw [if_neg (by omega), if_neg (by omega), if_neg (by omega), if_neg (by omega), if_pos (by omega), show 4 + k.toNat - 4 = k.toNat by omega, show ((k.toNat : Nat) : Int) = k by omega]
  have et : rn (d + 2) 161 [iR (some 88), iI k] (st h I J) = some (oI (if k < I 90 183 then 1 else 0), st h I J) := by
    have := s_isTownM (d := d) (h := h) (I := I) (J := J) s k hm
    rw [this]
    show some (oI (if 0 ≤ k ∧ k < I 90 183 then 1 else 0), st h I J) = _
    by_cases q : k < I 90 183
    · rw [if_pos q, if_pos ⟨hk.1, q⟩]
    · rw [if_neg q, if_neg (fun z => q z.2)]
  rw [r_M_orderValue, e_M_orderValue]
  by_cases c15 : x = 15
  · rw [if_pos c15, if_pos c15, eb, yck (bT_88 s), et, kI_o]
    by_cases q : k < I 90 183
    · rw [if_pos q, if_pos q, if_neg (by decide), ygR (bT_88 s) (bR_2 s), xB_s, zAI (i := 7 + k.toNat) (bT_90 s) (bL_90 s) (by rw [wr_id (by omega) (by omega)]; omega) (by omega)]
    · rw [if_neg q, if_neg q, if_pos rfl]
  rw [if_neg c15, if_neg c15]
  by_cases c16 : x = 16
  · rw [if_pos c16, if_neg (show ¬ x = 20 by omega), ygR (bT_88 s) (bR_2 s), xB_s, zAI (i := 112) (bT_90 s) (bL_90 s) (by omega) (by omega), show (x - 16).toNat = 0 by omega]
    rfl
  rw [if_neg c16]
  by_cases c17 : x = 17
  · rw [if_pos c17, if_neg (show ¬ x = 20 by omega), ygI (bT_88 s), show (x - 16).toNat = 1 by omega]
    rfl
  rw [if_neg c17]
  by_cases c18 : x = 18
  · rw [if_pos c18, if_neg (show ¬ x = 20 by omega), ygI (bT_88 s), show (x - 16).toNat = 2 by omega]
    rfl
  rw [if_neg c18]
  by_cases c19 : x = 19
  · rw [if_pos c19, if_neg (show ¬ x = 20 by omega), yck (bT_88 s), s_homeMany (d := d) s hm, kI_o, show (x - 16).toNat = 3 by omega]
    rfl
  rw [if_neg c19, if_pos (show x = 20 by omega), eh, yck (bT_88 s), et, kI_o]
  by_cases q : k < I 90 183
  · rw [if_pos q, if_pos q, if_neg (by decide), ygR (bT_88 s) (bR_2 s), xB_s, zAI (i := k.toNat) (bT_90 s) (bL_90 s) (by rw [wr_id (by omega) (by omega)]; omega) (by omega)]
  · rw [if_neg q, if_neg q, if_pos rfl]
end P73
