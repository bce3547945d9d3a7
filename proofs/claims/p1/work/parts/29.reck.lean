/-! What the class's Reckoner reckons (by program, wip/whole/gen29.py) -/
abbrev BRK : Int := -2147483648
def inr (x : Int) : Prop := -2147483648 ≤ x ∧ x ≤ 2147483647
theorem inr_wr (x : Int) : inr (wr x) := wr_in (wr_wr x)
def combV (c l r : Int) : Int := if c = 2 then l + r else if c = 3 then l - r else if c = 4 then l * r else if c = 5 then wr (Int.tdiv l r) else if c = 6 then wr (Int.tmod l r) else if c = 7 then (if l < r then 1 else 0) else if c = 8 then (if l ≤ r then 0 else 1) else (if l = r then 1 else 0)
/-- two numbers brought together by a sign; BRK: BROKEN -/
def comb (c l r : Int) : Int := if (c = 5 ∨ c = 6) ∧ r = 0 then BRK else if combV c l r ≤ 1000000000 ∧ -1000000000 ≤ combV c l r then combV c l r else BRK
theorem comb_in (c l r : Int) : inr (comb c l r) := by
  unfold comb inr
  have hb : BRK = -2147483648 := rfl
  split
  · omega
  · split <;> omega
theorem lcmp_le (x y : Int) : lcmp x y ≤ 0 ↔ x ≤ y := by
  unfold lcmp
  split
  · omega
  · split <;> omega
theorem lcmp_lt (x y : Int) : lcmp x y < 0 ↔ x < y := by
  unfold lcmp
  split
  · omega
  · split <;> omega
theorem mul_bd {l r : Int} (hl : inr l) (hr : inr r) : -4611686018427387904 ≤ l * r ∧ l * r ≤ 4611686018427387904 := by
  unfold inr at hl hr
  have h : (l * r).natAbs ≤ 2147483648 * 2147483648 := by
    rw [Int.natAbs_mul]
    exact Nat.mul_le_mul (by omega) (by omega)
  omega
section P29a
variable {d : Nat}
theorem s_comb_t (h : IH) {x : Int} (n : Nat) : lp d 74 (n + 1) 142 [none, none, none, some (iJ x), none] [] h = some (oI (if x ≤ 1000000000 ∧ -1000000000 ≤ x then x else BRK), h) := by
  rw [e_Rk_combined_142]
  by_cases h1 : x ≤ 1000000000
  · rw [if_pos ((lcmp_le _ _).mpr h1)]
    by_cases h2 : x < -1000000000
    · rw [if_pos ((lcmp_lt _ _).mpr h2), if_neg (by omega)]
    · rw [if_neg (fun z => h2 ((lcmp_lt _ _).mp z)), if_pos (by omega), wr_id (by omega) (by omega)]
  · rw [if_neg (fun z => h1 ((lcmp_le _ _).mp z)), if_neg (by omega)]
theorem s_comb_s (h : IH) {c l r : Int} (hl : inr l) (hr : inr r) (hz : ¬ ((c = 5 ∨ c = 6) ∧ r = 0)) (n : Nat) : lp d 74 (n + 2) 18 [some (iI c), some (iI l), some (iI r), none, none] [] h = some (oI (if combV c l r ≤ 1000000000 ∧ -1000000000 ≤ combV c l r then combV c l r else BRK), h) := by
  have hm := mul_bd hl hr
  unfold inr at hl hr
  rw [e_Rk_combined_18]
  unfold combV
  by_cases c2 : c = 2
  · rw [if_pos c2, if_pos c2, wl_id (by omega) (by omega), s_comb_t]
  rw [if_neg c2, if_neg c2]
  by_cases c3 : c = 3
  · rw [if_pos c3, if_pos c3, wl_id (by omega) (by omega), s_comb_t]
  rw [if_neg c3, if_neg c3]
  by_cases c4 : c = 4
  · rw [if_pos c4, if_pos c4, wl_id (by omega) (by omega), s_comb_t]
  rw [if_neg c4, if_neg c4]
  by_cases c5 : c = 5
  · rw [if_pos c5, if_pos c5, xdI_ok (fun z => hz ⟨Or.inl c5, z⟩), s_comb_t]
  rw [if_neg c5, if_neg c5]
  by_cases c6 : c = 6
  · rw [if_pos c6, if_pos c6, xmI_ok (fun z => hz ⟨Or.inr c6, z⟩), s_comb_t]
  rw [if_neg c6, if_neg c6]
  by_cases c7 : c = 7
  · rw [if_pos c7, if_pos c7]
    by_cases e : l < r
    · rw [if_pos e, if_pos e, s_comb_t]
    · rw [if_neg e, if_neg e, s_comb_t]
  rw [if_neg c7, if_neg c7]
  by_cases c8 : c = 8
  · rw [if_pos c8, if_pos c8]
    by_cases e : l ≤ r
    · rw [if_pos e, if_pos e, s_comb_t]
    · rw [if_neg e, if_neg e, s_comb_t]
  rw [if_neg c8, if_neg c8]
  by_cases e : l = r
  · rw [if_pos e, if_pos e, s_comb_t]
  · rw [if_neg e, if_neg e, s_comb_t]
theorem s_combined (h : IH) {c l r : Int} (hl : inr l) (hr : inr r) : rn (d + 1) 74 [iI c, iI l, iI r] h = some (oI (comb c l r), h) := by
  rw [r_Rk_combined, e_Rk_combined]
  unfold comb
  by_cases c5 : c = 5
  · rw [if_pos c5]
    by_cases hz : r = 0
    · rw [if_pos hz, if_pos ⟨Or.inl c5, hz⟩]
    · rw [if_neg hz, if_neg (fun z => hz z.2)]
      exact s_comb_s h hl hr (fun z => hz z.2) 999997
  rw [if_neg c5]
  by_cases c6 : c = 6
  · rw [if_pos c6]
    by_cases hz : r = 0
    · rw [if_pos hz, if_pos ⟨Or.inr c6, hz⟩]
    · rw [if_neg hz, if_neg (fun z => hz z.2)]
      exact s_comb_s h hl hr (fun z => hz z.2) 999997
  rw [if_neg c6, if_neg (fun z => z.1.elim c5 c6)]
  exact s_comb_s h hl hr (fun z => z.1.elim c5 c6) 999997
end P29a
/-- a stack in a row: the top last -/
def StkAt (I : Nat → Nat → Int) (b : Nat) : List Int → Prop
  | [] => True
  | v :: t => I b t.length = v ∧ StkAt I b t
theorem StkAt.up {I : Nat → Nat → Int} {b k : Nat} {x : Int} : ∀ {t : List Int}, StkAt I b t → t.length ≤ k → StkAt (up I b k x) b t
  | [], _, _ => trivial
  | v :: t, h, hk => by
    have hk : t.length + 1 ≤ k := hk
    refine ⟨?_, StkAt.up h.2 (by omega)⟩
    rw [up_ni (by omega)]
    exact h.1
/-- what lies undermost; 1 where nothing lies -/
def bot : List Int → Int
  | [] => 1
  | [v] => v
  | _ :: u :: t => bot (u :: t)
theorem StkAt.bot {I : Nat → Nat → Int} {b : Nat} : ∀ {t : List Int}, StkAt I b t → t ≠ [] → I b 0 = bot t
  | [], _, h => absurd rfl h
  | [v], h, _ => h.1
  | _ :: u :: t, h, _ => StkAt.bot (t := u :: t) h.2 (by simp)
/-- steps reckoned, from the place i on, before the place z -/
def rkL (S W ws : Nat → Int) (nw z : Nat) : Nat → Nat → List Int → Int
  | 0, _, stk => bot stk
  | k + 1, i, stk =>
    if i < z then
      if S i = 0 then (if stk.length < 64 then rkL S W ws nw z k (i + 1) (W i :: stk) else BRK)
      else if S i = 1 then (if stk.length < 64 then (if W i < (nw : Int) then rkL S W ws nw z k (i + 1) (ws (W i).toNat :: stk) else BRK) else BRK)
      else match stk with
        | [] => BRK
        | a :: t =>
          if S i < 10 then (match t with
            | [] => BRK
            | l :: t2 => if comb (S i) l a = BRK then BRK else rkL S W ws nw z k (i + 1) (comb (S i) l a :: t2))
          else if S i = 10 then rkL S W ws nw z k (i + 1) (wr (1 - a) :: t)
          else if S i = 11 then (if a = 0 then rkL S W ws nw z k (max (i + 1) (W i).toNat) (a :: t) else rkL S W ws nw z k (i + 1) t)
          else if S i = 12 then (if a = 1 then rkL S W ws nw z k (max (i + 1) (W i).toNat) (a :: t) else rkL S W ws nw z k (i + 1) t)
          else BRK
    else bot stk

section P29
variable {d : Nat} {h : IH} {J : Nat → Nat → Int} {x r wd nw n1 z : Nat} {I0 : Nat → Nat → Int}
theorem rk_exit (hr : ShRk h r) {I : Nat → Nat → Int} {stk : List Int} {i : Nat} (hz : ¬ i < z) (hst : StkAt I (r + 1) stk) (n : Nat) : lp d 73 (n + 1) 26 [some (iR (some r)), some (iR (some x)), none, some (iR (some wd)), some (iI (stk.length : Nat)), some (iI (z : Nat)), some (iI (i : Nat)), none, none] [] (st h I J) = some (oI (bot stk), st h I J) := by
  rw [e_Rk_reckon_26, if_neg (by omega)]
  cases stk with
  | nil => rw [if_pos (by simp)]; rfl
  | cons v t =>
    have e := hst.bot (by simp)
    rw [if_neg (by rw [List.length_cons]; omega), ygR (Rk_t hr) (Rk_r0 hr), xB_s, yaI (Rk_t1 hr) (Rk_l1 hr) (by omega) (by omega)]
    rw [show (0 : Int).toNat = 0 from rfl, e]
theorem s_rk_l (hx : ShTx h x) (hx1 : hT h (x + 1) = 0) (hx2 : hT h (x + 2) = 0) (hl1 : hL h (x + 1) = n1) (hl2 : hL h (x + 2) = n1) (hr : ShRk h r) (hwt : hT h wd = 0) (hwl : hL h wd = nw) (hnw : nw ≤ 1000) (hr1 : x + 1 ≠ r + 1) (hr2 : x + 2 ≠ r + 1) (hrw : wd ≠ r + 1) (hz : z ≤ n1) (hz2 : z ≤ 1000)
    (hS : ∀ i, i < z → 0 ≤ I0 (x + 1) i ∧ I0 (x + 1) i ≤ 12) (hW : ∀ i, i < z → 0 ≤ I0 (x + 2) i ∧ I0 (x + 2) i ≤ 1000) (hws : ∀ k, k < nw → inr (I0 wd k)) :
    ∀ (k i : Nat) (stk : List Int) (I : Nat → Nat → Int), i ≤ 1000 → z ≤ i + k → (∀ b, b ≠ r + 1 → I b = I0 b) → StkAt I (r + 1) stk → (∀ v ∈ stk, inr v) → stk.length ≤ 64 → ∀ n, 5 * k + 1 ≤ n →
      ∃ I' : Nat → Nat → Int, (∀ b, b ≠ r + 1 → I' b = I0 b) ∧ lp (d + 1) 73 n 26 [some (iR (some r)), some (iR (some x)), none, some (iR (some wd)), some (iI (stk.length : Nat)), some (iI (z : Nat)), some (iI (i : Nat)), none, none] [] (st h I J) = some (oI (rkL (I0 (x + 1)) (I0 (x + 2)) (I0 wd) nw z k i stk), st h I' J) := by
  have xt := Tx_t hx
  have xr0 := Tx_r0 hx
  have xr1 := Tx_r1 hx
  have rt := Rk_t hr
  have rr := Rk_r0 hr
  have rt1 := Rk_t1 hr
  have rl1 := Rk_l1 hr
  have r3 := Rk_3 hr
  intro k
  induction k with
  | zero =>
    intro i stk I hi hz1 hI hst hin hlen n hn
    obtain ⟨n, rfl⟩ : ∃ q, n = q + 1 := ⟨n - 1, by omega⟩
    exact ⟨I, hI, rk_exit hr (by omega) hst n⟩
  | succ k ih =>
    intro i stk I hi hz1 hI hst hin hlen n hn
    obtain ⟨n, rfl⟩ : ∃ q, n = q + 5 := ⟨n - 5, by omega⟩
    by_cases hiz : i < z
    case neg =>
      refine ⟨I, hI, ?_⟩
      rw [rk_exit hr hiz hst (n + 4)]
      unfold rkL
      rw [if_neg hiz]
    have hI1 := hI (x + 1) hr1
    have hI2 := hI (x + 2) hr2
    have hIw := hI wd hrw
    have hSi := hS i hiz
    have hWi := hW i hiz
    have ew : ∀ k : Nat, wr ((k : Int) + 1) = if k < 2000000 then ((k + 1 : Nat) : Int) else wr ((k : Int) + 1) := by
      intro k
      split
      · rw [wr_id (by omega) (by omega)]; rfl
      · rfl
    have hhd : lp (d + 1) 73 (n + 5) 26 [some (iR (some r)), some (iR (some x)), none, some (iR (some wd)), some (iI (stk.length : Nat)), some (iI (z : Nat)), some (iI (i : Nat)), none, none] [] (st h I J) =
        (if I0 (x + 1) i = 0 then lp (d + 1) 73 (n + 4) 62 [some (iR (some r)), some (iR (some x)), none, some (iR (some wd)), some (iI (stk.length : Nat)), some (iI (z : Nat)), some (iI (i : Nat)), some (iI (I0 (x + 1) i)), some (iI (I0 (x + 2) i))] [] (st h I J)
        else if I0 (x + 1) i = 1 then lp (d + 1) 73 (n + 4) 62 [some (iR (some r)), some (iR (some x)), none, some (iR (some wd)), some (iI (stk.length : Nat)), some (iI (z : Nat)), some (iI (i : Nat)), some (iI (I0 (x + 1) i)), some (iI (I0 (x + 2) i))] [] (st h I J)
        else if I0 (x + 1) i < 10 then lp (d + 1) 73 (n + 4) 129 [some (iR (some r)), some (iR (some x)), none, some (iR (some wd)), some (iI (stk.length : Nat)), some (iI (z : Nat)), some (iI (i : Nat)), some (iI (I0 (x + 1) i)), some (iI (I0 (x + 2) i))] [iI 2, iI (stk.length : Nat)] (st h I J)
        else lp (d + 1) 73 (n + 4) 129 [some (iR (some r)), some (iR (some x)), none, some (iR (some wd)), some (iI (stk.length : Nat)), some (iI (z : Nat)), some (iI (i : Nat)), some (iI (I0 (x + 1) i)), some (iI (I0 (x + 2) i))] [iI 1, iI (stk.length : Nat)] (st h I J)) := by
      rw [e_Rk_reckon_26, if_pos (by omega), xB_s, ygR xt xr0, xB_s, yaN hx1 hl1 (by omega), xB_s, ygR xt xr1, xB_s, yaN hx2 hl2 (by omega), hI1, hI2]
    -- a number or a word is put on the stack
    have push : ∀ (v : Int), inr v → stk.length < 64 → ∃ I' : Nat → Nat → Int, (∀ b, b ≠ r + 1 → I' b = I0 b) ∧ lp (d + 1) 73 (n + 3) 109 [some (iR (some r)), some (iR (some x)), none, some (iR (some wd)), some (iI (stk.length : Nat)), some (iI (z : Nat)), some (iI (i : Nat)), none, none] [] (st h (up I (r + 1) stk.length v) J) = some (oI (rkL (I0 (x + 1)) (I0 (x + 2)) (I0 wd) nw z k (i + 1) (v :: stk)), st h I' J) := by
      intro v hv hl
      obtain ⟨I', a1, a2⟩ := ih (i + 1) (v :: stk) (up I (r + 1) stk.length v) (by omega) (by omega) (fun b hb => (up_na hb).trans (hI b hb)) ⟨up_eq _ _ _ _, hst.up (Nat.le_refl _)⟩ (fun u hu => (List.mem_cons.mp hu).elim (fun e => e ▸ hv) (hin u)) (by rw [List.length_cons]; omega) (n + 2) (by omega)
      refine ⟨I', a1, ?_⟩
      rw [e_Rk_reckon_109, wr_id (by omega) (by omega), wr_id (by omega) (by omega)]
      exact a2
    rw [hhd]
    unfold rkL
    rw [if_pos hiz]
    by_cases s0 : I0 (x + 1) i = 0
    · rw [if_pos s0, if_pos s0]
      have e : lp (d + 1) 73 (n + 4) 62 [some (iR (some r)), some (iR (some x)), none, some (iR (some wd)), some (iI (stk.length : Nat)), some (iI (z : Nat)), some (iI (i : Nat)), some (iI (I0 (x + 1) i)), some (iI (I0 (x + 2) i))] [] (st h I J) = if stk.length < 64 then lp (d + 1) 73 (n + 3) 109 [some (iR (some r)), some (iR (some x)), none, some (iR (some wd)), some (iI (stk.length : Nat)), some (iI (z : Nat)), some (iI (i : Nat)), none, none] [] (st h (up I (r + 1) stk.length (I0 (x + 2) i)) J) else some (oI BRK, st h I J) := by
        rw [e_Rk_reckon_62, ygR rt rr, xB_s, yle (by omega) rl1 (by omega)]
        by_cases hl : stk.length < 64
        · rw [if_pos (by omega), if_neg (by omega), ygR rt rr, if_pos s0, xB_s, ysN rt1 (by omega) rl1 (by omega), if_pos hl]
        · rw [if_neg (by omega), if_neg hl]
      rw [e]
      by_cases hl : stk.length < 64
      · rw [if_pos hl, if_pos hl]
        exact push _ (by unfold inr; omega) hl
      · rw [if_neg hl, if_neg hl]
        exact ⟨I, hI, rfl⟩
    rw [if_neg s0, if_neg s0]
    by_cases s1 : I0 (x + 1) i = 1
    · rw [if_pos s1, if_pos s1]
      have e : lp (d + 1) 73 (n + 4) 62 [some (iR (some r)), some (iR (some x)), none, some (iR (some wd)), some (iI (stk.length : Nat)), some (iI (z : Nat)), some (iI (i : Nat)), some (iI (I0 (x + 1) i)), some (iI (I0 (x + 2) i))] [] (st h I J) = if stk.length < 64 then (if I0 (x + 2) i < (nw : Int) then lp (d + 1) 73 (n + 3) 109 [some (iR (some r)), some (iR (some x)), none, some (iR (some wd)), some (iI (stk.length : Nat)), some (iI (z : Nat)), some (iI (i : Nat)), none, none] [] (st h (up I (r + 1) stk.length (I0 wd (I0 (x + 2) i).toNat)) J) else some (oI BRK, st h I J)) else some (oI BRK, st h I J) := by
        rw [e_Rk_reckon_62, ygR rt rr, xB_s, yle (by omega) rl1 (by omega)]
        by_cases hl : stk.length < 64
        · rw [if_pos (by omega), if_pos s1, if_pos hl, xB_s, yle (by omega) hwl (by omega)]
          by_cases hw : I0 (x + 2) i < (nw : Int)
          · rw [if_pos hw, if_pos hw, ygR rt rr, if_neg s0, xB_s, yaI hwt hwl hWi.1 hw, xB_s, ysN rt1 (by omega) rl1 (by omega), hIw]
          · rw [if_neg hw, if_neg hw]
        · rw [if_neg (by omega), if_neg hl]
      rw [e]
      by_cases hl : stk.length < 64
      · rw [if_pos hl, if_pos hl]
        by_cases hw : I0 (x + 2) i < (nw : Int)
        · rw [if_pos hw, if_pos hw]
          exact push _ (hws _ (by omega)) hl
        · rw [if_neg hw, if_neg hw]
          exact ⟨I, hI, rfl⟩
      · rw [if_neg hl, if_neg hl]
        exact ⟨I, hI, rfl⟩
    rw [if_neg s1, if_neg s1]
    have jmp : ∀ q : Int, q = I0 (x + 2) i → wr (imax (i : Int) (wr (q - 1)) + 1) = ((max (i + 1) (I0 (x + 2) i).toNat : Nat) : Int) := by
      intro q hq
      subst hq
      rw [wr_id (x := I0 (x + 2) i - 1) (by omega) (by omega)]
      have e : imax (i : Int) (I0 (x + 2) i - 1) + 1 = ((max (i + 1) (I0 (x + 2) i).toNat : Nat) : Int) := by
        unfold imax
        split <;> omega
      rw [e, wr_id (by omega) (by omega)]
    have nx1 : wr ((i : Int) + 1) = ((i + 1 : Nat) : Int) := by rw [wr_id (by omega) (by omega)]; rfl
    cases stk with
    | nil =>
      refine ⟨I, hI, ?_⟩
      by_cases s10 : I0 (x + 1) i < 10
      · rw [if_pos s10, e_Rk_reckon_129, if_pos (by simp)]
      · rw [if_neg s10, e_Rk_reckon_129, if_pos (by simp)]
    | cons a t =>
      have ha : I (r + 1) t.length = a := hst.1
      have hla : ((a :: t).length : Int) = (t.length : Int) + 1 := by rw [List.length_cons]; omega
      have hll : (a :: t).length = t.length + 1 := List.length_cons
      have hina := hin a List.mem_cons_self
      have hint : ∀ v ∈ t, inr v := fun v hv => hin v (List.mem_cons_of_mem _ hv)
      have m1 : wr ((((a :: t).length : Nat) : Int) + -1) = (t.length : Int) := by rw [hla, wr_id (by omega) (by omega)]; omega
      have m2 : wr ((((a :: t).length : Nat) : Int) - 1) = (t.length : Int) := by rw [hla, wr_id (by omega) (by omega)]; omega
      dsimp only
      by_cases s10 : I0 (x + 1) i < 10
      · rw [if_pos s10, if_pos s10]
        cases t with
        | nil =>
          refine ⟨I, hI, ?_⟩
          rw [e_Rk_reckon_129, if_pos (by simp)]
        | cons l t2 =>
          have hl : I (r + 1) t2.length = l := hst.2.1
          have hlt : (l :: t2).length = t2.length + 1 := List.length_cons
          have hinl := hint l List.mem_cons_self
          have b1 : t2.length + 2 ≤ 64 := by omega
          have m3 : wr ((((l :: t2).length : Nat) : Int) - 1) = (t2.length : Int) := by rw [hlt, wr_id (by omega) (by omega)]; omega
          have e : lp (d + 1) 73 (n + 4) 129 [some (iR (some r)), some (iR (some x)), none, some (iR (some wd)), some (iI ((a :: l :: t2).length : Nat)), some (iI (z : Nat)), some (iI (i : Nat)), some (iI (I0 (x + 1) i)), some (iI (I0 (x + 2) i))] [iI 2, iI ((a :: l :: t2).length : Nat)] (st h I J) = (if comb (I0 (x + 1) i) l a = BRK then some (oI BRK, st h (up I (r + 1) t2.length (comb (I0 (x + 1) i) l a)) J) else lp (d + 1) 73 (n + 1) 26 [some (iR (some r)), some (iR (some x)), none, some (iR (some wd)), some (iI ((l :: t2).length : Nat)), some (iI (z : Nat)), some (iI ((i + 1 : Nat) : Int)), none, none] [] (st h (up I (r + 1) t2.length (comb (I0 (x + 1) i) l a)) J)) := by
            rw [e_Rk_reckon_129, if_neg (by rw [hla]; omega), if_neg (by omega), if_neg (by omega), e_Rk_reckon_172, if_neg (by omega), m1, e_Rk_reckon_227, m3, ygR rt rr, ygR rt rr, xB_s, yaN rt1 rl1 (by omega), ygR rt rr, xB_s, yaN rt1 rl1 (by omega), ha, hl, s_combined _ hinl hina, kI_o, xB_s, ysN rt1 (by omega) rl1 (by omega), ygR rt rr, xB_s, yaN rt1 rl1 (by omega), up_eq, e_Rk_reckon_270, nx1]
          rw [e]
          dsimp only
          by_cases hb : comb (I0 (x + 1) i) l a = BRK
          · rw [if_pos hb, if_pos hb]
            exact ⟨_, fun b hb => (up_na hb).trans (hI b hb), rfl⟩
          · rw [if_neg hb, if_neg hb]
            exact ih (i + 1) (comb (I0 (x + 1) i) l a :: t2) _ (by omega) (by omega) (fun b hb => (up_na hb).trans (hI b hb)) ⟨up_eq _ _ _ _, hst.2.2.up (Nat.le_refl _)⟩ (fun u hu => (List.mem_cons.mp hu).elim (fun e => e ▸ comb_in _ _ _) (fun hu => hint u (List.mem_cons_of_mem _ hu))) (by rw [List.length_cons]; omega) (n + 1) (by omega)
      · rw [if_neg s10, if_neg s10, e_Rk_reckon_129, if_neg (by rw [hla]; omega)]
        by_cases s1a : I0 (x + 1) i = 10
        · rw [if_pos s1a, if_pos s1a, m2, ygR rt rr, ygR rt rr, xB_s, yaN rt1 rl1 (by omega), ha, xB_s, ysN rt1 (by omega) rl1 (by omega), nx1]
          exact ih (i + 1) (wr (1 - a) :: t) _ (by omega) (by omega) (fun b hb => (up_na hb).trans (hI b hb)) ⟨up_eq _ _ _ _, hst.2.up (Nat.le_refl _)⟩ (fun u hu => (List.mem_cons.mp hu).elim (fun e => e ▸ inr_wr _) (fun hu => hint u hu)) (by rw [List.length_cons]; omega) (n + 3) (by omega)
        rw [if_neg s1a, if_neg s1a]
        by_cases s1b : I0 (x + 1) i = 11
        · rw [if_pos s1b, if_pos s1b, e_Rk_reckon_179, m2, ygR rt rr, xB_s, yaN rt1 rl1 (by omega), ha, if_pos s1b]
          by_cases ha0 : a = 0
          · rw [if_pos ha0, if_pos ha0, jmp _ rfl]
            exact ih (max (i + 1) (I0 (x + 2) i).toNat) (a :: t) I (by omega) (by omega) hI hst hin hlen (n + 2) (by omega)
          · rw [if_neg ha0, if_neg ha0, m1, nx1]
            exact ih (i + 1) t I (by omega) (by omega) hI hst.2 hint (by omega) (n + 2) (by omega)
        rw [if_neg s1b, if_neg s1b]
        have s1c : I0 (x + 1) i = 12 := by omega
        rw [if_pos s1c, e_Rk_reckon_172, if_pos s1c, e_Rk_reckon_179, m2, ygR rt rr, xB_s, yaN rt1 rl1 (by omega), ha, if_neg s1b]
        by_cases ha0 : a = 1
        · rw [if_pos ha0, if_pos ha0, jmp _ rfl]
          exact ih (max (i + 1) (I0 (x + 2) i).toNat) (a :: t) I (by omega) (by omega) hI hst hin hlen (n + 1) (by omega)
        · rw [if_neg ha0, if_neg ha0, m1, nx1]
          exact ih (i + 1) t I (by omega) (by omega) hI hst.2 hint (by omega) (n + 1) (by omega)
/-- a place of a TEXT reckoned: what the Reckoner r tells of the steps of the Text x, from .. to as its rows say -/
theorem s_reckon {nc : Nat} {p : Int} (hx : ShTx h x) (hx1 : hT h (x + 1) = 0) (hx2 : hT h (x + 2) = 0) (hl1 : hL h (x + 1) = n1) (hl2 : hL h (x + 2) = n1) (hx5 : hT h (x + 5) = 0) (hx6 : hT h (x + 6) = 0) (hl5 : hL h (x + 5) = nc) (hl6 : hL h (x + 6) = nc) (hp : 0 ≤ p ∧ p < (nc : Int)) (hr : ShRk h r) (hwt : hT h wd = 0) (hwl : hL h wd = nw) (hnw : nw ≤ 1000) (hr1 : x + 1 ≠ r + 1) (hr2 : x + 2 ≠ r + 1) (hrw : wd ≠ r + 1) {f : Nat}
    (hf : I0 (x + 5) p.toNat = (f : Int)) (hz0 : imin (I0 (x + 6) p.toNat) (I0 x 6) = (z : Int)) (hf2 : f ≤ 1000) (hz : z ≤ n1) (hz2 : z ≤ 1000)
    (hS : ∀ i, i < z → 0 ≤ I0 (x + 1) i ∧ I0 (x + 1) i ≤ 12) (hW : ∀ i, i < z → 0 ≤ I0 (x + 2) i ∧ I0 (x + 2) i ≤ 1000) (hws : ∀ k, k < nw → inr (I0 wd k)) :
    ∃ I' : Nat → Nat → Int, (∀ b, b ≠ r + 1 → I' b = I0 b) ∧ rn (d + 2) 73 [iR (some r), iR (some x), iI p, iR (some wd)] (st h I0 J) = some (oI (rkL (I0 (x + 1)) (I0 (x + 2)) (I0 wd) nw z (z - f) f []), st h I' J) := by
  obtain ⟨I', a1, a2⟩ := s_rk_l (d := d) (J := J) hx hx1 hx2 hl1 hl2 hr hwt hwl hnw hr1 hr2 hrw hz hz2 hS hW hws (z - f) f [] I0 hf2 (by omega) (fun _ _ => rfl) trivial (fun _ hv => absurd hv List.not_mem_nil) (by simp) 999999 (by omega)
  refine ⟨I', a1, ?_⟩
  rw [r_Rk_reckon, e_Rk_reckon, xB_s, ygR (Tx_t hx) (Tx_r5 hx), xB_s, yaI hx6 hl6 hp.1 hp.2, xB_s, ygI (Tx_t hx), xB_s, ygR (Tx_t hx) (Tx_r4 hx), xB_s, yaI hx5 hl5 hp.1 hp.2, hz0, hf]
  exact a2
end P29

