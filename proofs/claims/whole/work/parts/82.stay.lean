/-! What stays as it is; the reference lays a text (by program, wip/whole/gen82.py) -/
section P82a
variable {h h' : IH} {I I' : Nat → Nat → Int} {a x c cc : Nat} {CL : Nat → Cls} {K K' : Nat → Int} {LW LW' : Nat → Nat × (Nat → Cls)}
/-- the cells lo .. hi are the same -/
def Sm (h h' : IH) (I I' : Nat → Nat → Int) (lo hi : Nat) : Prop := ∀ b, lo ≤ b → b ≤ hi → hT h' b = hT h b ∧ hL h' b = hL h b ∧ hR h' b = hR h b ∧ I' b = I b
theorem TxOk.tr (s : Sm h h' I I' x (x + 6)) (hx : TxOk h I x c) : TxOk h' I' x c := by
  obtain ⟨n1, nc, m, a1, ⟨t1, t2, t3, t4, t5, t6⟩, ⟨l1, l2, l3, l4, l5, l6⟩, a4, a5, a6⟩ := hx
  have e : ∀ i, i ≤ 6 → hT h' (x + i) = hT h (x + i) ∧ hL h' (x + i) = hL h (x + i) ∧ hR h' (x + i) = hR h (x + i) ∧ I' (x + i) = I (x + i) := fun i hi => s (x + i) (by omega) (by omega)
  refine ⟨n1, nc, m, ?_, ⟨by rw [(e 1 (by omega)).1]; exact t1, by rw [(e 2 (by omega)).1]; exact t2, by rw [(e 3 (by omega)).1]; exact t3, by rw [(e 4 (by omega)).1]; exact t4, by rw [(e 5 (by omega)).1]; exact t5, by rw [(e 6 (by omega)).1]; exact t6⟩, ⟨by rw [(e 1 (by omega)).2.1]; exact l1, by rw [(e 2 (by omega)).2.1]; exact l2, by rw [(e 3 (by omega)).2.1]; exact l3, by rw [(e 4 (by omega)).2.1]; exact l4, by rw [(e 5 (by omega)).2.1]; exact l5, by rw [(e 6 (by omega)).2.1]; exact l6⟩, ?_, ?_, ?_⟩
  · obtain ⟨q1, q2, q3, q4, q5, q6, q7, q8⟩ := a1
    have e0 := e 0 (by omega)
    rw [Nat.add_zero] at e0
    exact ⟨q1, by rw [e0.1]; exact q2, by rw [e0.2.2.1]; exact q3, by rw [e0.2.2.1]; exact q4, by rw [e0.2.2.1]; exact q5, by rw [e0.2.2.1]; exact q6, by rw [e0.2.2.1]; exact q7, by rw [e0.2.2.1]; exact q8⟩
  · have e0 := e 0 (by omega)
    rw [Nat.add_zero] at e0
    rw [e0.2.2.2]
    exact a4
  · rw [(e 5 (by omega)).2.2.2, (e 6 (by omega)).2.2.2]
    exact a5
  · rw [(e 1 (by omega)).2.2.2, (e 2 (by omega)).2.2.2]
    exact a6
theorem TxM.tr (s : Sm h h' I I' x (x + 6)) (hx : TxM h I x cc CL) : TxM h' I' x cc CL := by
  have hf : ∀ b, x ≤ b → b ≤ x + 6 → I' b = I b := fun b h1 h2 => (s b h1 h2).2.2.2
  exact ⟨hx.1.tr s, fun i hi => ⟨by rw [hf (x + 3) (by omega) (by omega)]; exact (hx.2 i hi).1, fun q hq ws hw => by rw [plV_fr hf]; exact (hx.2 i hi).2 q hq ws hw⟩⟩
/-- a LAND, its laws' texts the same: so is what it means -/
theorem RL.tr (r : RL h I a K LW) (hI : ∀ b, a ≤ b → b ≤ a + 11 → I' b = I b) (hR1 : hR h' (a + 11) = hR h (a + 11)) (ht : ∀ j x, hR h (a + 11) j = some x → Sm h h' I I' x (x + 6)) : RL h' I' a K LW := by
  obtain ⟨r1, r2, ⟨r3, r4, r5⟩, r6, r7, ⟨r8, r9, r10⟩, r11, r12, r13, r14⟩ := r
  have e : ∀ i, i ≤ 11 → I' (a + i) = I (a + i) := fun i hi => hI (a + i) (by omega) (by omega)
  have e0 := e 0 (by omega)
  rw [Nat.add_zero] at e0
  refine ⟨by rw [e0]; exact r1, by rw [e 1 (by omega), e 2 (by omega)]; exact r2, ⟨by rw [e 3 (by omega), e 4 (by omega)]; exact r3, by rw [e 5 (by omega), e 6 (by omega)]; exact r4, by rw [e 7 (by omega)]; exact r5⟩, by rw [e 8 (by omega)]; exact r6, by rw [e0, e 9 (by omega), e 10 (by omega)]; exact r7, ⟨by rw [e0]; exact r8, by rw [e0]; exact r9, fun j hj => ?_⟩, fun b b1 b2 => by rw [hI b b1 b2]; exact r11 b b1 b2, by rw [e 3 (by omega)]; exact r12, by rw [e 5 (by omega)]; exact r13, by rw [e 7 (by omega)]; exact r14⟩
  obtain ⟨x, x1, x2, x3⟩ := r10 j hj
  exact ⟨x, by rw [hR1]; exact x1, x2, x3.tr (ht j x x1)⟩
/-- another row with the same numbers -/
theorem LwM.cg {f : Nat} (hl : LwM K f cc CL) (hf : f < 6) (e1 : K' (187 + f) = K (187 + f)) (e : ∀ k, k < 400 → K' (194 + (400 * f + k)) = K (194 + (400 * f + k)) ∧ K' (2994 + (400 * f + k)) = K (2994 + (400 * f + k))) : LwM K' f cc CL := by
  obtain ⟨B, n, c, t, hR, hc, ha⟩ := hl
  have hcn := t.2.1
  exact ⟨B, n, c, t, fun k hk => by rw [(e k (by omega)).1, (e k (by omega)).2]; exact hR k hk, by rw [e1]; exact hc, ha⟩
theorem LwA.cg (hA : LwA K LW) (k : KOk K) (e : ∀ i, 185 ≤ i → i ≠ 186 → K' i = K i) : LwA K' LW := by
  have h6 := k.2.2.2.2.2.1
  intro j hj
  rw [e 185 (by omega) (by omega)] at hj
  exact (hA j hj).cg (by omega) (e _ (by omega) (by omega)) fun k hk => ⟨e _ (by omega) (by omega), e _ (by omega) (by omega)⟩
end P82a
/-- the codes and numbers of c tokens laid as the text t, from the k-th on -/
def layR (I : Nat → Nat → Int) (t c k : Nat) : Nat → Nat → Int := fun q i => if q = 90 then (if 194 + 400 * t + k ≤ i ∧ i < 194 + 400 * t + c then I 97 (i - (194 + 400 * t)) else if 2994 + 400 * t + k ≤ i ∧ i < 2994 + 400 * t + c then I 98 (i - (2994 + 400 * t)) else I 90 i) else I q i
section P82
variable {d : Nat} {h : IH} {J : Nat → Nat → Int}
theorem layR_s (I : Nat → Nat → Int) {t c k : Nat} (ht : t ≤ 6) (hc : c ≤ 400) (hk : k < c) : layR (up (up I 90 (194 + 400 * t + k) (I 97 k)) 90 (2994 + 400 * t + k) (I 98 k)) t c (k + 1) = layR I t c k := by
  funext q i
  unfold layR
  by_cases c1 : q = 90
  · rw [if_pos c1, if_pos c1, up_na (show 97 ≠ 90 by omega), up_na (show 97 ≠ 90 by omega), up_na (show 98 ≠ 90 by omega), up_na (show 98 ≠ 90 by omega), up_at, up_at]
    by_cases c2 : i = 194 + 400 * t + k
    · rw [if_neg (by omega), if_neg (by omega), if_neg (by omega), if_pos c2, if_pos (by omega), c2]
      congr 1
      omega
    · by_cases c3 : i = 2994 + 400 * t + k
      · rw [if_neg (by omega), if_neg (by omega), if_pos c3, if_neg (by omega), if_pos (by omega), c3]
        congr 1
        omega
      · rw [if_neg c3, if_neg c2]
        by_cases c4 : 194 + 400 * t + (k + 1) ≤ i ∧ i < 194 + 400 * t + c
        · rw [if_pos c4, if_pos (by omega)]
        · rw [if_neg c4, if_neg (show ¬ (194 + 400 * t + k ≤ i ∧ i < 194 + 400 * t + c) by omega)]
          by_cases c5 : 2994 + 400 * t + (k + 1) ≤ i ∧ i < 2994 + 400 * t + c
          · rw [if_pos c5, if_pos (by omega)]
          · rw [if_neg c5, if_neg (by omega)]
  · rw [if_neg c1, if_neg c1, up_na c1, up_na c1]
theorem layR_0 (I : Nat → Nat → Int) {t c : Nat} : layR I t c c = I := by
  funext q i
  unfold layR
  by_cases c1 : q = 90
  · rw [if_pos c1, if_neg (by omega), if_neg (by omega), c1]
  · rw [if_neg c1]
theorem l_lays (s : ShM h 88) {t c : Nat} (ht : t ≤ 6) (hc : c ≤ 400) : ∀ (m k f : Nat) (I : Nat → Nat → Int), k + m = c → I 88 18 = (c : Int) → lp d 202 (f + m + 1) 16 [some (iR (some 88)), some (iI (t : Int)), some (iI (k : Int))] [] (st h I J) = some (o0, st h (layR I t c k) J) := by
  intro m
  induction m with
  | zero =>
    intro k f I hk e
    rw [Nat.add_zero, e_M_lays_16, ygI (bT_88 s), e, if_neg (by omega), show k = c by omega, layR_0]
  | succ m ih =>
    intro k f I hk e
    rw [show f + (m + 1) + 1 = (f + m + 1) + 1 by omega, e_M_lays_16, ygI (bT_88 s), e, if_pos (by omega), ygR (bT_88 s) (bR_2 s), ygR (bT_88 s) (bR_15 s), xB_s, yaN (bT_97 s) (bL_97 s) (by omega), xB_s, zSI (i := 194 + 400 * t + k) (bT_90 s) (by omega) (bL_90 s) (by rw [wr_id (x := 400 * (t : Int)) (by omega) (by omega), wr_id (x := 194 + 400 * (t : Int)) (by omega) (by omega), wr_id (by omega) (by omega)]; omega) (by omega), ygR (bT_88 s) (bR_2 s), ygR (bT_88 s) (bR_16 s), xB_s, yaN (bT_98 s) (bL_98 s) (by omega), up_na (show 98 ≠ 90 by omega), xB_s, zSI (i := 2994 + 400 * t + k) (bT_90 s) (by omega) (bL_90 s) (by rw [wr_id (x := 400 * (t : Int)) (by omega) (by omega), wr_id (x := 2994 + 400 * (t : Int)) (by omega) (by omega), wr_id (by omega) (by omega)]; omega) (by omega), wr_id (x := (k : Int) + 1) (by omega) (by omega)]
    have := ih (k + 1) f (up (up I 90 (194 + 400 * t + k) (I 97 k)) 90 (2994 + 400 * t + k) (I 98 k)) (by omega) (by rw [up_na (by omega), up_na (by omega)]; exact e)
    rw [layR_s I ht hc (by omega)] at this
    exact this
theorem s_lays (s : ShM h 88) {t c : Nat} (ht : t ≤ 6) (hc : c ≤ 400) {I : Nat → Nat → Int} (e : I 88 18 = (c : Int)) : rn (d + 1) 202 [iR (some 88), iI (t : Int)] (st h I J) = some (o0, st h (layR (up I 90 (187 + t) (c : Int)) t c 0) J) := by
  rw [r_M_lays, e_M_lays, ygR (bT_88 s) (bR_2 s), ygI (bT_88 s), e, xB_s, zSI (i := 187 + t) (bT_90 s) (by omega) (bL_90 s) (by rw [wr_id (by omega) (by omega)]; omega) (by omega)]
  have := l_lays (d := d) (J := J) s ht hc c 0 (999998 - c) (up I 90 (187 + t) (c : Int)) (by omega) (by rw [up_na (by omega)]; exact e)
  rw [show 999998 - c + c + 1 = 999999 by omega] at this
  exact this
/-- the row of numbers with the text t laid -/
theorem layR_at {I : Nat → Nat → Int} {B : Nat → Int} {n K t : Nat} (r : MdTk B n I K) (hn : n ≤ 400) (ht : t ≤ 6) : EvR B n K (400 * t) (layR (up I 90 (187 + t) (K : Int)) t K 0 90) ∧ layR (up I 90 (187 + t) (K : Int)) t K 0 90 (187 + t) = (K : Int) ∧ ∀ i, i ≠ 187 + t → (i < 194 + 400 * t ∨ 594 + 400 * t ≤ i) → (i < 2994 + 400 * t ∨ 3394 + 400 * t ≤ i) → layR (up I 90 (187 + t) (K : Int)) t K 0 90 i = I 90 i := by
  have hK := r.1.2
  refine ⟨fun k hk => ?_, ?_, fun i h1 h2 h3 => ?_⟩
  · have := r.2.1 k hk
    unfold layR
    constructor
    · rw [if_pos rfl, if_pos (by omega), up_na (by omega), show 194 + (400 * t + k) - (194 + 400 * t) = k by omega]
      exact this.2.1
    · rw [if_pos rfl, if_neg (by omega), if_pos (by omega), up_na (by omega), show 2994 + (400 * t + k) - (2994 + 400 * t) = k by omega]
      exact this.2.2.1
  · unfold layR
    rw [if_pos rfl, if_neg (by omega), if_neg (by omega), up_eq]
  · unfold layR
    rw [if_pos rfl, if_neg (by omega), if_neg (by omega), up_ni h1]
theorem MdTk.ev {I : Nat → Nat → Int} {B : Nat → Int} {n K : Nat} (hB : ∀ i, 0 ≤ B i ∧ B i ≤ 255) (r : MdTk B n I K) (hn : n ≤ 400) : EvT B n K := ⟨hB, ⟨r.1.2, hn⟩, fun j hj => (r.2.1 j hj).2.2.2, r.2.2.1⟩
end P82
