/-! The class runs ORDERS (by program, wip/whole/gen98z.py) -/
/-- the text read stands at 44: these clauses -/
def TxT (h : IH) (I : Nat → Nat → Int) (cc : Nat) (CL : Nat → Cls) : Prop := TxOk h I 44 cc ∧ ∀ i, i < cc → (I 47 i = (CL i).1 ∧ I 48 i = (CL i).2.1) ∧ ∀ q, q < 4 → ∀ ws, wsOk ws 18 → plV I 44 ws 18 (4 * i + q) = valP (CL i).2.2 q ws
/-- what can be undone: the class -/
def TP (n : Int) (I : Nat → Nat → Int) (kp : Nat) (H : Nat → Nat → Int) : Prop := kp ≤ 16 ∧ I 72 0 = (kp : Int) ∧ ∃ nx : Nat, nx < 17 ∧ I 72 1 = (nx : Int) ∧ ∀ i, i < kp → RwP n (pR73 (I 73) ((nx + 17 - kp + i) % 17)) (H i)
/-- the class is as S -/
def TO (h : IH) (I : Nat → Nat → Int) (LW : Nat → Nat × (Nat → Cls)) (nt : Nat) (S : OSt) : Prop := RL h I 4 S.1 LW ∧ (I 62 0 = S.2.1 ∧ I 62 1 = S.2.2.1) ∧ TP nt I S.2.2.2.1 S.2.2.2.2
def OnFr (I' I : Nat → Nat → Int) : Prop := ∀ b, (b < 4 ∨ 15 < b) → (b < 62 ∨ 73 < b) → I' b = I b
section P98z
variable {d n nt cc : Nat} {h : IH} {I I' I2 J A : Nat → Nat → Int} {K K' : Nat → Int} {L : LwV} {LW : Nat → Nat × (Nat → Cls)} {a b x dn lt kind : Int} {D : Int} {S S' : OSt} {cl : Cls} {CL : Nat → Cls} {kp : Nat} {H : Nat → Nat → Int}
theorem OnFr.rf (I : Nat → Nat → Int) : OnFr I I := fun _ _ _ => rfl
theorem OnFr.tr {A B C : Nat → Nat → Int} (h1 : OnFr A B) (h2 : OnFr B C) : OnFr A C := fun b q1 q2 => (h1 b q1 q2).trans (h2 b q1 q2)
theorem TxT.fr (t : TxT h I cc CL) (c : ∀ b, 44 ≤ b → b ≤ 50 → I' b = I b) : TxT h I' cc CL := ⟨t.1.fr c, fun i hi => ⟨by rw [c 47 (by omega) (by omega), c 48 (by omega) (by omega)]; exact (t.2 i hi).1, fun q hq ws hw => by rw [plV_fr c]; exact (t.2 i hi).2 q hq ws hw⟩⟩
theorem TP.fr {n : Int} (t : TP n I kp H) (h72 : I' 72 = I 72) (h73 : I' 73 = I 73) : TP n I' kp H := by
  unfold TP at *
  rw [h72, h73]
  exact t
theorem TP.pp {n : Int} (t : TP n I kp H) (hn : n ≤ 7) : TP n (ppI I kind) kp H := by
  obtain ⟨a1, a3, nx, a2, a4, a6⟩ := t
  refine ⟨a1, by rw [ppI_o (by omega)]; exact a3, nx, a2, by rw [ppI_o (by omega)]; exact a4, fun i hi => ?_⟩
  refine (a6 i hi).cg (fun j hj => ?_) (fun j hj => rfl) hn
  show ppI I kind 73 (72 * ((nx + 17 - kp + i) % 17) + j) = I 73 (72 * ((nx + 17 - kp + i) % 17) + j)
  have : (nx + 17 - kp + i) % 17 ≠ nx := by omega
  exact ppI_n a4 (by omega)
theorem TP.push (v : TP (K 183) I kp H) (r : RL h I 4 K LW) (k : KOk K) (hk : 0 ≤ kind ∧ kind ≤ 3) (c73 : I2 73 = ppI I kind 73) (c0 : I2 72 0 = if I 72 0 < 16 then I 72 0 + 1 else 16) (c1 : I2 72 1 = (I 72 1 + 1) % 17) : TP (K 183) I2 (pushN kp) (pushH kp H K kind) := by
  obtain ⟨a1, a3, nx, a2, a4, a6⟩ := v
  have hn := k.1.2
  rw [a3] at c0
  rw [a4] at c1
  have hs : sO kp = if kp = 16 then 1 else 0 := rfl
  obtain ⟨s, es⟩ : ∃ s, s = sO kp := ⟨_, rfl⟩
  rw [← es] at hs
  have hpn : pushN kp = kp - s + 1 := by rw [es]; rfl
  have hpH : ∀ i j, pushH kp H K kind i j = if i = kp - s then (if j < 113 then K j else kind) else H (i + s) j := by
    rw [es]
    exact fun _ _ => rfl
  rw [hpn]
  refine ⟨by split at hs <;> omega, by rw [c0]; split at hs <;> split <;> omega, (nx + 1) % 17, by omega, by rw [c1]; omega, fun i hi => ?_⟩
  by_cases c : i < kp - s
  · have hrow : ((nx + 1) % 17 + 17 - (kp - s + 1) + i) % 17 = (nx + 17 - kp + (i + s)) % 17 := by split at hs <;> omega
    have hne : (nx + 17 - kp + (i + s)) % 17 ≠ nx := by split at hs <;> omega
    rw [hrow]
    refine (a6 (i + s) (by split at hs <;> omega)).cg (fun j hj => ?_) (fun j hj => ?_) hn
    · show I2 73 (72 * ((nx + 17 - kp + (i + s)) % 17) + j) = I 73 (72 * ((nx + 17 - kp + (i + s)) % 17) + j)
      rw [c73]
      exact ppI_n a4 (by omega)
    · rw [hpH, if_neg (by omega)]
  · have hi2 : i = kp - s := by omega
    have hrow : ((nx + 1) % 17 + 17 - (kp - s + 1) + i) % 17 = nx := by split at hs <;> omega
    rw [hrow]
    obtain ⟨p1, p2, p3, p4, p5, p6⟩ := ppI_e (kind := kind) a4
    refine RwP.new (kind := kind) r k ⟨fun t ht => ?_, fun s hs => ?_, fun x hx => ?_, fun j hj => ?_, ?_, ?_⟩ (fun j hj => by rw [hpH, if_pos hi2, if_pos hj]) (by rw [hpH, if_pos hi2, if_neg (by omega)]) hk
    · show I2 73 (72 * nx + t) = _
      rw [c73]
      exact p1 t ht
    · show I2 73 (72 * nx + (7 + s)) = _
      rw [c73]
      exact p2 s hs
    · show I2 73 (72 * nx + (14 + x)) = _
      rw [c73]
      exact p3 x hx
    · show I2 73 (72 * nx + (21 + j)) = _
      rw [c73]
      exact p4 j hj
    · show I2 73 (72 * nx + 70) = _
      rw [c73]
      exact p5
    · show I2 73 (72 * nx + 71) = _
      rw [c73]
      exact p6
theorem wdS_h (i : Nat) (hi : i < 7) : wdS K dn lt (4 + i) = if (i : Int) < K 183 then K i else -1 := by
  unfold wdS
  rw [if_neg (by omega), if_neg (by omega), if_neg (by omega), if_neg (by omega), if_pos (by omega), show 4 + i - 4 = i by omega]
theorem wdS_b (i : Nat) (hi : i < 7) : wdS K dn lt (11 + i) = if (i : Int) < K 183 then K (7 + i) else -1 := by
  unfold wdS
  rw [if_neg (by omega), if_neg (by omega), if_neg (by omega), if_neg (by omega), if_neg (by omega), show 11 + i - 11 = i by omega]
theorem l_words (s : ShT h) (r : RL h I 4 K LW) (k : KOk K) : ∀ (q i f : Nat) (I' : Nat → Nat → Int), i + q = 7 → (∀ b, b ≠ 69 → I' b = I b) → (∀ j, j < 18 → (j < 4 ∨ (4 ≤ j ∧ j < 4 + i) ∨ (11 ≤ j ∧ j < 11 + i)) → I' 69 j = wdS K dn lt j) → ∃ I1, (∀ b, b ≠ 69 → I1 b = I b) ∧ (∀ j, j < 18 → I1 69 j = wdS K dn lt j) ∧ lp (d + 1) 78 (f + q + 1) 44 [some (iR (some 62)), some (iR (some 4)), some (iI (i : Int))] [] (st h I' J) = some (o0, st h I1 J) := by
  have k1 := k.1
  have e4 : I 4 0 = K 183 := r.1
  intro q
  induction q with
  | zero =>
    intro i f I' hi hf hw
    refine ⟨I', hf, fun j hj => hw j hj (by omega), ?_⟩
    rw [Nat.add_zero, e_Rn_setWords_44, if_neg (by omega)]
  | succ q ih =>
    intro i f I' hi hf hw
    have l4 := ShT_4 s
    have wh := wdS_h (K := K) (dn := dn) (lt := lt) i (by omega)
    have wb := wdS_b (K := K) (dn := dn) (lt := lt) i (by omega)
    obtain ⟨I1, a1, a2, a3⟩ := ih (i + 1) f (up (up I' 69 (4 + i) (wdS K dn lt (4 + i))) 69 (11 + i) (wdS K dn lt (11 + i))) (by omega) (fun b hb => by rw [up_na hb, up_na hb]; exact hf b hb) (fun j hj hj2 => by
      rw [up_at, up_at]
      by_cases z : j = 11 + i
      · rw [if_pos z, z]
      rw [if_neg z]
      by_cases z2 : j = 4 + i
      · rw [if_pos z2, z2]
      rw [if_neg z2]
      exact hw j hj (by omega))
    refine ⟨I1, a1, a2, ?_⟩
    have w1 : wr ((i : Int) + 1) = ((i + 1 : Nat) : Int) := by rw [wr_id (by omega) (by omega)]; omega
    rw [show f + (q + 1) + 1 = (f + q + 1) + 1 by omega, e_Rn_setWords_44, if_pos (by omega), ygR (aT_62 s) (aR_62_3 s), xB_s, ygIv (x := K 183) (aT_4 s) (by rw [hf 4 (by omega)]; exact e4)]
    by_cases c : (i : Int) < K 183
    · rw [if_pos c] at wh wb
      have h5 : I' 5 i = K i := by
        rw [hf 5 (by omega)]
        exact r.has k c
      have h7 : I' 7 i = K (7 + i) := by
        rw [hf 7 (by omega)]
        exact (r.2.2.1.1 i (by omega)).1
      rw [if_pos c, xB_s, ygR (La_t l4) (La_r1 l4), xB_s, yaIv (i := i) (La_t1 l4) (La_l1 l4) rfl (by omega) h5, xB_s, zSI (i := 4 + i) (aT_69 s) (by omega) (aL_69 s) (by rw [wr_id (by omega) (by omega)]; omega) (by omega), ygR (aT_62 s) (aR_62_3 s), xB_s, ygIv (x := K 183) (aT_4 s) (by rw [up_na (by omega), hf 4 (by omega)]; exact e4), if_pos c, xB_s, ygR (La_t l4) (La_r3 l4), xB_s, yaIv (i := i) (x := K (7 + i)) (La_t3 l4) (La_l3 l4) rfl (by omega) (by rw [up_na (by omega)]; exact h7), xB_s, zSI (i := 11 + i) (aT_69 s) (by omega) (aL_69 s) (by rw [wr_id (by omega) (by omega)]; omega) (by omega), w1, ← wh, ← wb]
      exact a3
    · rw [if_neg c] at wh wb
      rw [if_neg c, xB_s, zSI (i := 4 + i) (aT_69 s) (by omega) (aL_69 s) (by rw [wr_id (by omega) (by omega)]; omega) (by omega), ygR (aT_62 s) (aR_62_3 s), xB_s, ygIv (x := K 183) (aT_4 s) (by rw [up_na (by omega), hf 4 (by omega)]; exact e4), if_neg c, xB_s, zSI (i := 11 + i) (aT_69 s) (by omega) (aL_69 s) (by rw [wr_id (by omega) (by omega)]; omega) (by omega), w1]
      rw [wh, wb] at a3
      exact a3
theorem t_words (s : ShT h) (r : RL h I 4 K LW) (k : KOk K) (e0 : I 62 0 = dn) (e1 : I 62 1 = lt) : ∃ I1, (∀ b, b ≠ 69 → I1 b = I b) ∧ (∀ j, j < 18 → I1 69 j = wdS K dn lt j) ∧ rn (d + 2) 78 [iR (some 62), iR (some 4)] (st h I J) = some (o0, st h I1 J) := by
  have k1 := k.1
  have l4 := ShT_4 s
  obtain ⟨n, en⟩ : ∃ n : Nat, K 183 = (n : Int) := ⟨(K 183).toNat, by omega⟩
  obtain ⟨Iw, eIw⟩ : ∃ Iw, Iw = up (up (up I 69 0 (K 112)) 69 1 dn) 69 2 lt := ⟨_, rfl⟩
  have hc := s_countHome (d := d) (J := J) (I := Iw) (ShT_4 s) (m := n) (by rw [eIw, up_na (by omega), up_na (by omega), up_na (by omega)]; exact r.1.trans en) (by omega)
  rw [show Iw (4 + 2) = I (4 + 2) by rw [eIw, up_na (by omega), up_na (by omega), up_na (by omega)], cnt_any r k n (by omega)] at hc
  obtain ⟨I1, a1, a2, a3⟩ := l_words (d := d) (J := J) (dn := dn) (lt := lt) s r k 7 0 999991 (up Iw 69 3 (cntSelf K n : Nat)) rfl (fun b hb => by rw [eIw, up_na hb, up_na hb, up_na hb, up_na hb]) (fun j hj hj2 => by
    rw [eIw, up_at, up_at, up_at, up_at]
    unfold wdS
    by_cases c3 : j = 3
    · rw [if_pos c3, if_neg (by omega), if_neg (by omega), if_neg (by omega), if_pos c3, show (K 183).toNat = n by omega]
    by_cases c2 : j = 2
    · rw [if_neg c3, if_pos c2, if_neg (by omega), if_neg (by omega), if_pos c2]
    by_cases c1 : j = 1
    · rw [if_neg c3, if_neg c2, if_pos c1, if_neg (by omega), if_pos c1]
    · rw [if_neg c3, if_neg c2, if_neg c1, if_pos (show j = 0 by omega), if_pos (show j = 0 by omega)])
  refine ⟨I1, a1, a2, ?_⟩
  rw [r_Rn_setWords, e_Rn_setWords, ygR (aT_62 s) (aR_62_3 s), xB_s, ygR (La_t l4) (La_r8 l4), xB_s, yaIv (i := 0) (j := 0) (La_t8 l4) (La_l8 l4) rfl (by omega) r.2.2.2.1.1, xB_s, zSI (i := 0) (j := 0) (aT_69 s) (by omega) (aL_69 s) rfl (by omega), ygR (aT_62 s) (aR_62_3 s), ygIv (x := dn) (aT_62 s) (by rw [up_na (by omega)]; exact e0), xB_s, zSI (i := 1) (j := 1) (aT_69 s) (by omega) (aL_69 s) rfl (by omega), ygR (aT_62 s) (aR_62_3 s), ygIv (x := lt) (aT_62 s) (by rw [up_na (by omega), up_na (by omega)]; exact e1), xB_s, zSI (i := 2) (j := 2) (aT_69 s) (by omega) (aL_69 s) rfl (by omega), ygR (aT_62 s) (aR_62_3 s), xB_s, yck (aT_4 s), ← eIw, hc, kI_o, xB_s, zSI (i := 3) (j := 3) (aT_69 s) (by omega) (aL_69 s) rfl (by omega)]
  exact a3
end P98z
