/-! What the class's Judge tells (by program, wip/whole/gen30.py) -/
/-- a TEXT stands at x: its rows hold steps that can be reckoned; c clauses -/
def TxOk (h : IH) (I : Nat → Nat → Int) (x c : Nat) : Prop := ∃ n1 nc m : Nat, ShTx h x ∧ (hT h (x + 1) = 0 ∧ hT h (x + 2) = 0 ∧ hT h (x + 3) = 0 ∧ hT h (x + 4) = 0 ∧ hT h (x + 5) = 0 ∧ hT h (x + 6) = 0) ∧ (hL h (x + 1) = n1 ∧ hL h (x + 2) = n1 ∧ hL h (x + 3) = nc ∧ hL h (x + 4) = nc ∧ hL h (x + 5) = 4 * nc ∧ hL h (x + 6) = 4 * nc) ∧ (I x 6 = (m : Int) ∧ I x 7 = (c : Int) ∧ m ≤ n1 ∧ n1 ≤ 1000 ∧ c ≤ nc ∧ nc ≤ 12) ∧ (∀ p, p < 4 * nc → (0 ≤ I (x + 5) p ∧ I (x + 5) p ≤ 1000) ∧ (0 ≤ I (x + 6) p ∧ I (x + 6) p ≤ 1000)) ∧ (∀ i, i < m → (0 ≤ I (x + 1) i ∧ I (x + 1) i ≤ 12) ∧ (0 ≤ I (x + 2) i ∧ I (x + 2) i ≤ 1000))
theorem TxOk.fr {h : IH} {I I' : Nat → Nat → Int} {x c : Nat} (hf : ∀ b, x ≤ b → b ≤ x + 6 → I' b = I b) (hx : TxOk h I x c) : TxOk h I' x c := by
  obtain ⟨n1, nc, m, a1, a2, a3, a4, a5, a6⟩ := hx
  refine ⟨n1, nc, m, a1, a2, a3, ?_, ?_, ?_⟩
  · rw [hf x (by omega) (by omega)]; exact a4
  · rw [hf (x + 5) (by omega) (by omega), hf (x + 6) (by omega) (by omega)]; exact a5
  · rw [hf (x + 1) (by omega) (by omega), hf (x + 2) (by omega) (by omega)]; exact a6
/-- what the place p of the TEXT x tells -/
def plV (I : Nat → Nat → Int) (x : Nat) (ws : Nat → Int) (nw p : Nat) : Int :=
  rkL (I (x + 1)) (I (x + 2)) ws nw (imin (I (x + 6) p) (I x 6)).toNat ((imin (I (x + 6) p) (I x 6)).toNat - (I (x + 5) p).toNat) (I (x + 5) p).toNat []
theorem plV_fr {I I' : Nat → Nat → Int} {x : Nat} (hf : ∀ b, x ≤ b → b ≤ x + 6 → I' b = I b) (ws : Nat → Int) (nw p : Nat) : plV I' x ws nw p = plV I x ws nw p := by
  unfold plV
  rw [hf x (by omega) (by omega), hf (x + 1) (by omega) (by omega), hf (x + 2) (by omega) (by omega), hf (x + 5) (by omega) (by omega), hf (x + 6) (by omega) (by omega)]
theorem rkL_ws {S W ws ws' : Nat → Int} {nw z : Nat} (h0 : 0 < nw) (hw : ∀ k, k < nw → ws k = ws' k) : ∀ (k i : Nat) (stk : List Int), rkL S W ws nw z k i stk = rkL S W ws' nw z k i stk := by
  intro k
  induction k with
  | zero => intro i stk; rfl
  | succ k ih =>
    intro i stk
    unfold rkL
    simp only [ih]
    by_cases hn : W i < (nw : Int)
    · rw [hw (W i).toNat (by omega)]
    · simp only [if_neg hn]
theorem plV_ws {I : Nat → Nat → Int} {x : Nat} {ws ws' : Nat → Int} {nw : Nat} (h0 : 0 < nw) (hw : ∀ k, k < nw → ws k = ws' k) (p : Nat) : plV I x ws nw p = plV I x ws' nw p := rkL_ws h0 hw _ _ _
/-- what the last of the first c clauses of a kind tells that holds; BRK: none -/
def lastT (I : Nat → Nat → Int) (x : Nat) (ws : Nat → Int) (kind : Int) : Nat → Int
  | 0 => BRK
  | c + 1 => if (I (x + 3) c = kind ∧ plV I x ws 9 (4 * c + 3) = 1) ∧ plV I x ws 9 (4 * c) ≠ BRK then plV I x ws 9 (4 * c) else lastT I x ws kind c
theorem lastT_ws {I : Nat → Nat → Int} {x : Nat} {ws ws' : Nat → Int} (hw : ∀ k, k < 9 → ws k = ws' k) (kind : Int) : ∀ c, lastT I x ws kind c = lastT I x ws' kind c
  | 0 => rfl
  | c + 1 => by
    unfold lastT
    rw [plV_ws (by omega) hw, plV_ws (by omega) hw (4 * c), lastT_ws hw kind c]
theorem lastT_fr {I I' : Nat → Nat → Int} {x : Nat} (hf : ∀ b, x ≤ b → b ≤ x + 6 → I' b = I b) (ws : Nat → Int) (kind : Int) : ∀ c, lastT I' x ws kind c = lastT I x ws kind c
  | 0 => rfl
  | c + 1 => by
    unfold lastT
    rw [plV_fr hf, plV_fr hf, hf (x + 3) (by omega) (by omega), lastT_fr hf ws kind c]
section P30
variable {d : Nat} {h : IH} {J I0 : Nat → Nat → Int} {a x r wd nw j c : Nat}
theorem s_place {p : Nat} (hx : TxOk h I0 x c) (hp : p < 4 * c) (hr : ShRk h r) (hwt : hT h wd = 0) (hwl : hL h wd = nw) (hnw : nw ≤ 1000) (hd : x + 6 < r ∨ r + 1 < x) (hrw : wd ≠ r + 1) (hws : ∀ k, k < nw → inr (I0 wd k)) :
    ∃ I' : Nat → Nat → Int, (∀ b, b ≠ r + 1 → I' b = I0 b) ∧ rn (d + 2) 73 [iR (some r), iR (some x), iI (p : Nat), iR (some wd)] (st h I0 J) = some (oI (plV I0 x (I0 wd) nw p), st h I' J) := by
  obtain ⟨n1, nc, m, a1, ⟨t1, t2, t3, t4, t5, t6⟩, ⟨l1, l2, l3, l4, l5, l6⟩, ⟨e6, e7, b1, b2, b3, b4⟩, a5, a6⟩ := hx
  obtain ⟨f1, f2⟩ := a5 p (by omega)
  have hz : imin (I0 (x + 6) p) (I0 x 6) = (((imin (I0 (x + 6) p) (I0 x 6)).toNat : Nat) : Int) := by
    unfold imin
    split <;> omega
  have hz2 : (imin (I0 (x + 6) p) (I0 x 6)).toNat ≤ m := by
    unfold imin
    split <;> omega
  exact s_reckon (p := (p : Int)) (f := (I0 (x + 5) p).toNat) (z := (imin (I0 (x + 6) p) (I0 x 6)).toNat) a1 t1 t2 l1 l2 t5 t6 l5 l6 (by omega) hr hwt hwl hnw (by omega) (by omega) hrw (by rw [Int.toNat_natCast]; omega) (by rw [Int.toNat_natCast]; exact hz) (by omega) (by omega) (by omega) (fun i hi => (a6 i (by omega)).1) (fun i hi => (a6 i (by omega)).2) hws
theorem s_lastT_l (hj : ShJu h j) (hx : TxOk h I0 x c) (hd : x + 6 < j ∨ j + 3 < x) (hws : ∀ k, k < 9 → inr (I0 (j + 1) k)) (kind : Int) :
    ∀ (c' : Nat) (I : Nat → Nat → Int), c' ≤ c → (∀ b, b ≠ j + 3 → I b = I0 b) → ∀ n, c' + 1 ≤ n → ∃ I' : Nat → Nat → Int, (∀ b, b ≠ j + 3 → I' b = I0 b) ∧ lp (d + 2) 6 n 7 [some (iR (some j)), some (iR (some x)), some (iI kind), some (iI ((c' : Int) - 1)), none, none] [] (st h I J) = some (oI (lastT I0 x (I0 (j + 1)) kind c'), st h I' J) := by
  have jt := Ju_t hj
  have jr0 := Ju_r0 hj
  have jr1 := Ju_r1 hj
  have jt1 := Ju_t1 hj
  have jl1 := Ju_l1 hj
  have hr := Ju_s2 hj
  have rt := Rk_t hr
  intro c'
  induction c' with
  | zero =>
    intro I _ hI n hn
    obtain ⟨n, rfl⟩ : ∃ q, n = q + 1 := ⟨n - 1, by omega⟩
    refine ⟨I, hI, ?_⟩
    rw [e_Ju_lastTold_7, if_pos (by omega)]
    rfl
  | succ c' ih =>
    intro I hc hI n hn
    obtain ⟨n, rfl⟩ : ∃ q, n = q + 1 := ⟨n - 1, by omega⟩
    have hfr : ∀ b, x ≤ b → b ≤ x + 6 → I b = I0 b := fun b h1 h2 => hI b (by omega)
    have hx' := hx.fr hfr
    have hx2 := hx
    obtain ⟨n1, nc, m, a1, ⟨t1, t2, t3, t4, t5, t6⟩, ⟨l1, l2, l3, l4, l5, l6⟩, ⟨e6, e7, b1, b2, b3, b4⟩, a5, a6⟩ := hx2
    have e1 : (((c' + 1 : Nat) : Int) - 1) = (c' : Int) := by omega
    have e2 : wr ((c' : Int) + -1) = (c' : Int) - 1 := by rw [wr_id (by omega) (by omega)]; omega
    have e3 : wr (wr ((c' : Int) * 4) + 3) = ((4 * c' + 3 : Nat) : Int) := by rw [wr_id (x := (c' : Int) * 4) (by omega) (by omega), wr_id (by omega) (by omega)]; omega
    have e4 : wr ((c' : Int) * 4) = ((4 * c' : Nat) : Int) := by rw [wr_id (by omega) (by omega)]; omega
    have hk : I (x + 3) c' = I0 (x + 3) c' := by rw [hfr (x + 3) (by omega) (by omega)]
    have hw1 : I (j + 1) = I0 (j + 1) := hI (j + 1) (by omega)
    rw [e1, e_Ju_lastTold_7, if_neg (by omega), xB_s, ygR (Tx_t a1) (Tx_r2 a1), xB_s, yaN t3 l3 (by omega), hk]
    unfold lastT
    by_cases h1 : I0 (x + 3) c' = kind
    case neg =>
      rw [if_neg h1, if_neg (fun z => h1 z.1.1), e2]
      exact ih I (by omega) hI n (by omega)
    rw [if_pos h1, ygR jt jr1, ygR jt jr0, xB_s, yck rt, e3]
    obtain ⟨I1, f1, g1⟩ := s_place (d := d) (J := J) (p := 4 * c' + 3) (wd := j + 1) (r := j + 2) hx' (by omega) hr jt1 jl1 (by omega) (by omega) (by omega) (fun k hk => by rw [hw1]; exact hws k hk)
    have hI1 : ∀ b, b ≠ j + 3 → I1 b = I0 b := fun b hb => (f1 b hb).trans (hI b hb)
    rw [g1, kI_o, plV_fr hfr, hw1]
    by_cases h2 : plV I0 x (I0 (j + 1)) 9 (4 * c' + 3) = 1
    case neg =>
      rw [if_neg h2, if_neg (fun z => h2 z.1.2), e2]
      exact ih I1 (by omega) hI1 n (by omega)
    have hfr1 : ∀ b, x ≤ b → b ≤ x + 6 → I1 b = I0 b := fun b h1 h2 => hI1 b (by omega)
    have hw2 : I1 (j + 1) = I0 (j + 1) := hI1 (j + 1) (by omega)
    obtain ⟨I2, f2, g2⟩ := s_place (d := d) (J := J) (p := 4 * c') (wd := j + 1) (r := j + 2) (hx.fr hfr1) (by omega) hr jt1 jl1 (by omega) (by omega) (by omega) (fun k hk => by rw [hw2]; exact hws k hk)
    have hI2 : ∀ b, b ≠ j + 3 → I2 b = I0 b := fun b hb => (f2 b hb).trans (hI1 b hb)
    rw [if_pos h2, ygR jt jr1, ygR jt jr0, xB_s, yck rt, e4, g2, kI_o, plV_fr hfr1, hw2]
    by_cases h3 : plV I0 x (I0 (j + 1)) 9 (4 * c') = BRK
    · rw [if_pos h3, if_neg (fun z => z.2 h3), e2]
      exact ih I2 (by omega) hI2 n (by omega)
    · rw [if_neg h3, if_pos ⟨⟨h1, h2⟩, h3⟩]
      exact ⟨I2, hI2, rfl⟩
theorem s_lastTold (hj : ShJu h j) (hx : TxOk h I0 x c) (hd : x + 6 < j ∨ j + 3 < x) (hws : ∀ k, k < 9 → inr (I0 (j + 1) k)) (kind : Int) : ∃ I' : Nat → Nat → Int, (∀ b, b ≠ j + 3 → I' b = I0 b) ∧ rn (d + 3) 6 [iR (some j), iR (some x), iI kind] (st h I0 J) = some (oI (lastT I0 x (I0 (j + 1)) kind c), st h I' J) := by
  have hx2 := hx
  obtain ⟨n1, nc, m, a1, -, -, ⟨e6, e7, b1, b2, b3, b4⟩, -, -⟩ := hx2
  obtain ⟨I', f1, g1⟩ := s_lastT_l (d := d) (J := J) hj hx hd hws kind c I0 (Nat.le_refl _) (fun _ _ => rfl) 999999 (by omega)
  refine ⟨I', f1, ?_⟩
  rw [r_Ju_lastTold, e_Ju_lastTold, xB_s, ygI (Tx_t a1), e7, wr_id (by omega) (by omega)]
  exact g1
/-- what a LAW tells of a kind, asked of t, s, that is or would be at c; BRK: nothing -/
def lawT (I : Nat → Nat → Int) (a x c : Nat) (kind t s p : Int) : Int := lastT I x (wordsOf I a t s p) kind c
/-- words set, the LAW asked: the Judge's rows alone are changed -/
theorem s_askLaw (hl : ShLand h a) (hj : ShJu h j) (hx : TxOk h I0 x c) (hd : x + 6 < j ∨ j + 3 < x) (hda : a + 11 < j ∨ j + 3 < a) {t s p : Int} (ht : 0 ≤ t ∧ t < 7) (hs : 0 ≤ s ∧ s < 7) (hp : 0 ≤ p ∧ p < 7) (hws : ∀ k, k < 9 → inr (wordsOf I0 a t s p k)) (kind : Int) :
    rn (d + 3) 5 [iR (some j), iR (some a), iI t, iI s, iI p] (st h I0 J) = some (o0, st h (rowUp I0 (j + 1) 9 (wordsOf I0 a t s p)) J) ∧ ∃ I' : Nat → Nat → Int, (∀ b, b ≠ j + 1 → b ≠ j + 3 → I' b = I0 b) ∧ rn (d + 3) 6 [iR (some j), iR (some x), iI kind] (st h (rowUp I0 (j + 1) 9 (wordsOf I0 a t s p)) J) = some (oI (lawT I0 a x c kind t s p), st h I' J) := by
  refine ⟨s_setWords hl hj (by omega) ht hs hp, ?_⟩
  have hne : ∀ b, b ≠ j + 1 → rowUp I0 (j + 1) 9 (wordsOf I0 a t s p) b = I0 b := fun b hb => funext fun k => if_neg fun z => hb z.1
  have hat : ∀ k, k < 9 → rowUp I0 (j + 1) 9 (wordsOf I0 a t s p) (j + 1) k = wordsOf I0 a t s p k := fun k hk => if_pos ⟨rfl, hk⟩
  have hfr : ∀ b, x ≤ b → b ≤ x + 6 → rowUp I0 (j + 1) 9 (wordsOf I0 a t s p) b = I0 b := fun b h1 h2 => hne b (by omega)
  obtain ⟨I', f1, g1⟩ := s_lastTold (d := d) (J := J) hj (hx.fr hfr) hd (fun k hk => by rw [hat k hk]; exact hws k hk) kind
  refine ⟨I', fun b h1 h2 => (f1 b h2).trans (hne b h1), ?_⟩
  rw [g1, lastT_fr hfr, lastT_ws hat]
  rfl
end P30
