/-! The exchanges from one arrangement: the reference (by program, wip/whole/gen98zf.py) -/
/-- which Sundays could be sent: the reference's row -/
def SdM (I : Nat → Nat → Int) (n : Nat) (snd : Nat → Nat → Nat → Bool) : Prop := ∀ s p t, s < n → p < n → t < n → I 112 (49 * s + (7 * p + t)) = if snd s p t = true then 1 else 0
/-- what was found: the reference's rows -/
def HwM (I : Nat → Nat → Int) (n : Nat) (S : BSt) : Prop := (∀ i, i < S.1 → I 110 i = (nmB n S i : Int) ∧ I 108 (nmB n S i) = if i = 0 then 49 else (S.2.2.2 i : Int)) ∧ (∀ v, v < 5040 → inB (nmB n S) v S.1 = false → I 108 v = -1) ∧ ∀ i, 0 < i → i < S.1 → I 109 (nmB n S i) = (nmB n S (S.2.2.1 i) : Int)
section P98zf
variable {d n : Nat} {I I' J : Nat → Nat → Int} {h : IH} {a : Nat → Nat} {snd : Nat → Nat → Nat → Bool} {S : BSt}
theorem m_canEx (m : ShM h 88) (hn : n ≤ 7) (sd : SdM I n snd) (ar : ArM I n a) (p : PermN n a) {x y : Nat} (hx : x < n) (hy : y < n) : rn (d + 2) 259 [iR (some 88), iI (x : Int), iI (y : Int)] (st h I J) = some (oI (if exO snd a x y = true then 1 else 0), st h I J) := by
  have px := p.1 x hx
  have py := p.1 y hy
  have w : ∀ s t : Nat, s < 7 → t < 49 → wr ((wr (49 * (s : Int))) + (t : Int)) = ((49 * s + t : Nat) : Int) := fun s t hs ht => by
    rw [wr_id (x := 49 * (s : Int)) (by omega) (by omega), wr_id (by omega) (by omega)]
    omega
  rw [r_M_canExchange, e_M_canExchange, ygR (bT_88 m) (bR_43 m), ygR (bT_88 m) (bR_42 m), xB_s, yaIv (i := x) (bT_111 m) (bL_111 m) rfl (by omega) (ar x hx), s_pairAt _ (by omega) (by omega), kI_o, xB_s, show 7 * (x : Int) + (y : Int) = ((7 * x + y : Nat) : Int) by omega, w (a x) (7 * x + y) (by omega) (by omega), yaBv (i := 49 * a x + (7 * x + y)) (Or.inr (bT_112 m)) (bL_112 m) rfl (by omega) (sd (a x) x y px hx hy)]
  unfold exO
  cases e1 : snd (a x) x y with
  | false =>
    rw [if_neg (show ¬ (false = true) by decide), if_pos (show (0 : Int) = 0 from rfl), xZ_0]
    rfl
  | true =>
    rw [if_pos (show (true = true) from rfl), if_neg (show ¬ (1 : Int) = 0 by decide), ygR (bT_88 m) (bR_43 m), ygR (bT_88 m) (bR_42 m), xB_s, yaIv (i := y) (bT_111 m) (bL_111 m) rfl (by omega) (ar y hy), s_pairAt _ (by omega) (by omega), kI_o, xB_s, show 7 * (y : Int) + (x : Int) = ((7 * y + x : Nat) : Int) by omega, w (a y) (7 * y + x) (by omega) (by omega), yaBv (i := 49 * a y + (7 * y + x)) (Or.inr (bT_112 m)) (bL_112 m) rfl (by omega) (sd (a y) y x py hy hx)]
    cases e2 : snd (a y) y x with
    | false =>
      rw [if_neg (show ¬ (false = true) by decide), if_pos (show (0 : Int) = 0 from rfl), xZ_0]
      rfl
    | true =>
      rw [if_pos (show (true = true) from rfl), if_neg (show ¬ (1 : Int) = 0 by decide), xZ_1]
      rfl
theorem m_exch (m : ShM h 88) (hn : n ≤ 7) (ar : ArM I n a) {x y : Nat} (hx : x < n) (hy : y < n) : ∃ I1, (∀ b, b ≠ 111 → I1 b = I b) ∧ ArM I1 n (swA a x y) ∧ rn (d + 1) 260 [iR (some 88), iI (x : Int), iI (y : Int)] (st h I J) = some (o0, st h I1 J) := by
  refine ⟨up (up I 111 x (a y : Int)) 111 y (a x : Int), fun b hb => by rw [up_na hb, up_na hb], fun i hi => ?_, ?_⟩
  · rw [up_at, up_at]
    unfold swA
    by_cases c : i = y
    · by_cases c2 : i = x
      · rw [if_pos c, if_pos c2, ← c2, c]
      · rw [if_pos c, if_neg c2, if_pos c]
    · rw [if_neg c]
      by_cases c2 : i = x
      · rw [if_pos c2, if_pos c2]
      · rw [if_neg c2, if_neg c2, if_neg c]
        exact ar i hi
  · rw [r_M_exchanges, e_M_exchanges, ygR (bT_88 m) (bR_42 m), xB_s, yaIv (i := x) (bT_111 m) (bL_111 m) rfl (by omega) (ar x hx), ygR (bT_88 m) (bR_42 m), ygR (bT_88 m) (bR_42 m), xB_s, yaIv (i := y) (bT_111 m) (bL_111 m) rfl (by omega) (ar y hy), xB_s, zSI (i := x) (bT_111 m) (by omega) (bL_111 m) rfl (by omega), ygR (bT_88 m) (bR_42 m), xB_s, zSI (i := y) (bT_111 m) (by omega) (bL_111 m) rfl (by omega)]
theorem swA_swA {x y : Nat} (hxy : x ≠ y) (i : Nat) : swA (swA a x y) x y i = a i := by
  unfold swA
  by_cases c : i = x
  · rw [if_pos c, if_neg (by omega), if_pos rfl, c]
  · rw [if_neg c]
    by_cases c2 : i = y
    · rw [if_pos c2, if_pos rfl, c2]
    · rw [if_neg c2, if_neg c, if_neg c2]
theorem SdM.fr (s : SdM I n snd) (e : I' 112 = I 112) : SdM I' n snd := fun x p t hx hp ht => by rw [e]; exact s x p t hx hp ht
theorem HwM.fr (w : HwM I n S) (e8 : I' 108 = I 108) (e9 : I' 109 = I 109) (e10 : I' 110 = I 110) : HwM I' n S := by
  unfold HwM at *
  rw [e8, e9, e10]
  exact w
theorem HwM.add (w : HwM I n S) (b : BOk n S) (hn : n ≤ 7) {q : Nat → Nat} {hd e : Nat} (hh : hd < S.1) (fresh : inB (nmB n S) (numA n q) S.1 = false) : HwM (up (up (up I 108 (numA n q) (e : Int)) 109 (numA n q) (nmB n S hd : Int)) 110 S.1 (numA n q : Int)) n (addB S q hd e) := by
  obtain ⟨w1, w2, w3⟩ := w
  have f := inB_not.1 fresh
  have b0 := b.1
  have hN : ∀ i, nmB n (addB S q hd e) i = if i = S.1 then numA n q else nmB n S i := fun i => by
    unfold nmB
    show numA n (if i = S.1 then q else S.2.1 i) = _
    split <;> rfl
  refine ⟨fun i hi => ?_, fun v hv hv2 => ?_, fun i i0 hi => ?_⟩
  · have hi' : i < S.1 + 1 := hi
    rw [hN, up_at, up_na (by omega), up_na (by omega), up_na (by omega), up_na (by omega), up_at]
    show _ ∧ _ = if i = 0 then 49 else (((if i = S.1 then e else S.2.2.2 i : Nat)) : Int)
    by_cases z : i = S.1
    · rw [if_pos z, if_pos z, if_pos z, if_pos rfl, if_neg (by omega)]
      exact ⟨rfl, rfl⟩
    · obtain ⟨x1, x2⟩ := w1 i (by omega)
      rw [if_neg z, if_neg z, if_neg z, if_neg (f i (by omega))]
      exact ⟨x1, x2⟩
  · have hf := inB_not.1 hv2
    have h1 := hf S.1 (Nat.lt_succ_self _)
    rw [hN, if_pos rfl] at h1
    rw [up_na (by omega), up_na (by omega), up_at, if_neg (Ne.symm h1)]
    refine w2 v hv (inB_not.2 fun i hi => ?_)
    have := hf i (Nat.lt_succ_of_lt hi)
    rw [hN, if_neg (by omega)] at this
    exact this
  · have hi' : i < S.1 + 1 := hi
    show _ = (nmB n (addB S q hd e) (if i = S.1 then hd else S.2.2.1 i) : Int)
    rw [hN, up_na (by omega), up_at, up_na (by omega)]
    by_cases z : i = S.1
    · rw [if_pos z, if_pos z, if_pos rfl, hN, if_neg (by omega)]
    · have p := (b.2.2.2 i i0 (by omega)).1
      rw [if_neg z, if_neg z, if_neg (f i (by omega)), hN, if_neg (by omega)]
      exact w3 i i0 (by omega)
theorem HwM.new (w : HwM I n S) (b : BOk n S) {v : Nat} (hv : v < 5040) : I 108 v = -1 ↔ inB (nmB n S) v S.1 = false := by
  obtain ⟨w1, w2, w3⟩ := w
  constructor
  · intro z
    refine inB_not.2 fun i hi e => ?_
    have := (w1 i hi).2
    rw [e, z] at this
    split at this <;> omega
  · exact w2 v hv
theorem l_goes25 (m : ShM h 88) (hn : n ≤ 7) {hd x : Nat} (hx : x < n) : ∀ (k y f : Nat) (I : Nat → Nat → Int) (S : BSt), y + k = n → x < y → I 90 183 = (n : Int) → HwM I n S → BOk n S → hd < S.1 → ArM I n (S.2.1 hd) → SdM I n snd → ∃ I1, (∀ b, b ≠ 108 → b ≠ 109 → b ≠ 110 → b ≠ 111 → I1 b = I b) ∧ (HwM I1 n (rowB n snd hd x k y S) ∧ BOk n (rowB n snd hd x k y S) ∧ hd < (rowB n snd hd x k y S).1 ∧ ArM I1 n ((rowB n snd hd x k y S).2.1 hd)) ∧ lp (d + 3) 262 (f + k + 1) 25 [some (iR (some 88)), some (iI (nmB n S hd : Nat)), none, some (iI (S.1 : Int)), some (iI (x : Int)), some (iI (y : Int)), none] [] (st h I J) = lp (d + 3) 262 f 10 [some (iR (some 88)), some (iI (nmB n S hd : Nat)), none, some (iI ((rowB n snd hd x k y S).1 : Int)), some (iI ((x + 1 : Nat) : Int)), none, none] [] (st h I1 J) := by
  intro k
  induction k with
  | zero =>
    intro y f I S hy hxy en w b hh ar sd
    refine ⟨I, fun _ _ _ _ _ => rfl, ⟨w, b, hh, ar⟩, ?_⟩
    rw [Nat.add_zero, e_M_goesOn_25, yck (bT_88 m), m_many m en, kI_o, if_neg (by omega), wr_id (x := (x : Int) + 1) (by omega) (by omega)]
    rfl
  | succ k ih =>
    intro y f I S hy hxy en w b hh ar sd
    have hyn : y < n := by omega
    have p := b.2.1 hd hh
    have bs := b.step (snd := snd) hh hxy hyn
    have ble := b.le hn
    have w1 : wr ((y : Int) + 1) = ((y + 1 : Nat) : Int) := by rw [wr_id (by omega) (by omega)]; omega
    have eh := (bs.2.2.2 hd hh).1
    have enm : nmB n (stepB n snd hd x y S) hd = nmB n S hd := by
      unfold nmB
      rw [eh]
    rw [show f + (k + 1) + 1 = (f + k + 1) + 1 by omega, e_M_goesOn_25, yck (bT_88 m), m_many m en, kI_o, if_pos (by omega), yck (bT_88 m), m_canEx (d := d + 1) m hn sd ar p hx hyn, kI_o, w1]
    show ∃ I1, _ ∧ (HwM I1 n (rowB n snd hd x k (y + 1) (stepB n snd hd x y S)) ∧ BOk n (rowB n snd hd x k (y + 1) (stepB n snd hd x y S)) ∧ hd < (rowB n snd hd x k (y + 1) (stepB n snd hd x y S)).1 ∧ ArM I1 n ((rowB n snd hd x k (y + 1) (stepB n snd hd x y S)).2.1 hd)) ∧ _ = lp (d + 3) 262 f 10 [some (iR (some 88)), some (iI (nmB n S hd : Nat)), none, some (iI ((rowB n snd hd x k (y + 1) (stepB n snd hd x y S)).1 : Int)), some (iI ((x + 1 : Nat) : Int)), none, none] [] (st h I1 J)
    by_cases c1 : exO snd (S.2.1 hd) x y = true
    case neg =>
      have es : stepB n snd hd x y S = S := by
        unfold stepB
        rw [if_neg fun z => c1 z.1]
      rw [if_neg c1, if_pos (show (0 : Int) = 0 from rfl), es]
      exact ih (y + 1) f I S (by omega) (by omega) en w b hh ar sd
    rw [if_pos c1, if_neg (show ¬ (1 : Int) = 0 by decide), yck (bT_88 m)]
    obtain ⟨I2, a1, a2, a3⟩ := m_exch (d := d + 2) (J := J) m hn ar hx hyn
    have en2 : I2 90 183 = (n : Int) := by rw [a1 90 (by omega)]; exact en
    have hnum := s_numOf (d := d + 1) (J := J) m en2 hn a2
    obtain ⟨I3, b1, b2, b3⟩ := m_exch (d := d + 2) (J := J) m hn a2 hx hyn
    have ar3 : ArM I3 n (S.2.1 hd) := fun i hi => by rw [b2 i hi, swA_swA (by omega)]
    have hv := numA_lt (a := swA (S.2.1 hd) x y) hn
    have hN := numA_lt (a := S.2.1 hd) hn
    obtain ⟨v, ev⟩ : ∃ v, numA n (swA (S.2.1 hd) x y) = v := ⟨_, rfl⟩
    have w3 : HwM I3 n S := w.fr (by rw [b1 108 (by omega), a1 108 (by omega)]) (by rw [b1 109 (by omega), a1 109 (by omega)]) (by rw [b1 110 (by omega), a1 110 (by omega)])
    have hnew := w3.new b hv
    rw [a3, kV_o, yck (bT_88 m), hnum, kI_o, yck (bT_88 m), b3, kV_o, ygR (bT_88 m) (bR_39 m), xB_s, yaIv (i := numA n (swA (S.2.1 hd) x y)) (x := I3 108 (numA n (swA (S.2.1 hd) x y))) (bT_108 m) (bL_108 m) rfl hv rfl]
    by_cases c2 : inB (nmB n S) (numA n (swA (S.2.1 hd) x y)) S.1 = false
    case neg =>
      have es : stepB n snd hd x y S = S := by
        unfold stepB
        rw [if_neg fun z => c2 z.2]
      rw [if_neg (fun z => c2 (hnew.1 z)), es]
      obtain ⟨I1, q1, q2, q3⟩ := ih (y + 1) f I3 S (by omega) (by omega) (by rw [b1 90 (by omega)]; exact en2) w3 b hh ar3 (sd.fr (by rw [b1 112 (by omega), a1 112 (by omega)]))
      exact ⟨I1, fun b z1 z2 z3 z4 => by rw [q1 b z1 z2 z3 z4, b1 b z4, a1 b z4], q2, q3⟩
    have es : stepB n snd hd x y S = addB S (swA (S.2.1 hd) x y) hd (7 * x + y) := by
      unfold stepB
      rw [if_pos ⟨c1, c2⟩]
    have hlt : S.1 < 5040 := by
      have h1 : (stepB n snd hd x y S).1 ≤ 5040 := bs.1.le hn
      rw [es] at h1
      exact h1
    rw [es] at bs enm eh ⊢
    have w4 := w3.add b hn (q := swA (S.2.1 hd) x y) (hd := hd) (e := 7 * x + y) hh c2
    obtain ⟨I4, eI4⟩ : ∃ I4, I4 = up (up (up I3 108 (numA n (swA (S.2.1 hd) x y)) ((7 * x + y : Nat) : Int)) 109 (numA n (swA (S.2.1 hd) x y)) (nmB n S hd : Int)) 110 S.1 (numA n (swA (S.2.1 hd) x y) : Int) := ⟨_, rfl⟩
    rw [← eI4] at w4
    have e4 : ∀ b, b ≠ 108 → b ≠ 109 → b ≠ 110 → I4 b = I3 b := fun b z1 z2 z3 => by rw [eI4, up_na z3, up_na z2, up_na z1]
    obtain ⟨I1, q1, q2, q3⟩ := ih (y + 1) f I4 _ (by omega) (by omega) (by rw [e4 90 (by omega) (by omega) (by omega), b1 90 (by omega)]; exact en2) w4 bs.1 (Nat.lt_succ_of_lt hh) (fun i hi => by rw [e4 111 (by omega) (by omega) (by omega), eh]; exact ar3 i hi) (sd.fr (by rw [e4 112 (by omega) (by omega) (by omega), b1 112 (by omega), a1 112 (by omega)]))
    refine ⟨I1, fun b z1 z2 z3 z4 => by rw [q1 b z1 z2 z3 z4, e4 b z1 z2 z3, b1 b z4, a1 b z4], q2, ?_⟩
    rw [enm] at q3
    have w2 : wr ((S.1 : Int) + 1) = ((S.1 + 1 : Nat) : Int) := by rw [wr_id (by omega) (by omega)]; omega
    rw [if_pos (hnew.2 c2), ygR (bT_88 m) (bR_39 m), s_pairAt _ (by omega) (by omega), kI_o, show 7 * (x : Int) + (y : Int) = ((7 * x + y : Nat) : Int) by omega, xB_s, zSI (i := numA n (swA (S.2.1 hd) x y)) (bT_108 m) (by omega) (bL_108 m) rfl hv, ygR (bT_88 m) (bR_40 m), xB_s, zSI (i := numA n (swA (S.2.1 hd) x y)) (bT_109 m) (by omega) (bL_109 m) rfl hv, ygR (bT_88 m) (bR_41 m), xB_s, zSI (i := S.1) (bT_110 m) (by omega) (bL_110 m) rfl hlt, w2, ← eI4]
    exact q3
end P98zf
