/-! A year, the reference (by program, wip/whole/gen89.py) -/
/-- how often each had what it has, from the town t on: once more -/
def hdF (F : Nat → Int) (t n : Nat) : Nat → Int := fun i => if (14 ≤ i ∧ i < 63) ∧ (t ≤ (i - 14) / 7 ∧ (i - 14) / 7 < n) ∧ F ((i - 14) / 7) = (((i - 14) % 7 : Nat) : Int) then (if 99 < F i + 1 then 99 else F i + 1) else F i
def blF (F A : Nat → Int) (s n : Nat) : Nat → Int := fun i => if 7 + s ≤ i ∧ i < 7 + n then A (i - 7) else F i
/-- how all is a year later -/
noncomputable def passK (K : Nat → Int) (L : LwV) (n : Nat) : Nat → Int := upF (blF (hdF K 0 n) (fun s => altK K L (atK K (s : Int)) (s : Int)) 0 n) 112 (K 112 + 1)
noncomputable def likedK (K : Nat → Int) (L : LwV) : Nat → Int
  | 0 => 0
  | t + 1 => likedK K L t + likeK K L (t : Int) (K t)
section P89
variable {d n : Nat} {h : IH} {I J : Nat → Nat → Int} {L : LwV} {K : Nat → Int}
theorem hdF_s {F : Nat → Int} {t n : Nat} {x : Nat} (ht : t < n) (hn : n ≤ 7) (hx : x < 7) (e : F t = (x : Int)) : hdF (upF F (14 + (7 * t + x)) (if 99 < F (14 + (7 * t + x)) + 1 then 99 else F (14 + (7 * t + x)) + 1)) (t + 1) n = hdF F t n := by
  funext i
  unfold hdF
  have q : ∀ j, j < 7 → upF F (14 + (7 * t + x)) (if 99 < F (14 + (7 * t + x)) + 1 then 99 else F (14 + (7 * t + x)) + 1) j = F j := fun j hj => if_neg (by omega)
  by_cases c : i = 14 + (7 * t + x)
  · have h1 : (i - 14) / 7 = t := by omega
    have h2 : (i - 14) % 7 = x := by omega
    rw [if_neg (fun z => by have := z.2.1.1; omega), if_pos (show (14 ≤ i ∧ i < 63) ∧ (t ≤ (i - 14) / 7 ∧ (i - 14) / 7 < n) ∧ F ((i - 14) / 7) = (((i - 14) % 7 : Nat) : Int) from ⟨by omega, by omega, by rw [h1, h2]; exact e⟩)]
    have : upF F (14 + (7 * t + x)) (if 99 < F (14 + (7 * t + x)) + 1 then 99 else F (14 + (7 * t + x)) + 1) i = (if 99 < F (14 + (7 * t + x)) + 1 then 99 else F (14 + (7 * t + x)) + 1) := if_pos c
    rw [this, c]
  · have e2 : upF F (14 + (7 * t + x)) (if 99 < F (14 + (7 * t + x)) + 1 then 99 else F (14 + (7 * t + x)) + 1) i = F i := if_neg c
    rw [e2]
    by_cases c1 : (14 ≤ i ∧ i < 63) ∧ (t ≤ (i - 14) / 7 ∧ (i - 14) / 7 < n) ∧ F ((i - 14) / 7) = (((i - 14) % 7 : Nat) : Int)
    · have c2 : (i - 14) / 7 ≠ t := fun z => by
        have := c1.2.2
        rw [z, e] at this
        omega
      rw [if_pos c1, if_pos ⟨c1.1, by omega, by rw [q _ (by omega)]; exact c1.2.2⟩]
    · rw [if_neg c1, if_neg (fun z => c1 ⟨z.1, by omega, by have := z.2.2; rw [q _ (by omega)] at this; exact this⟩)]
theorem hdF_n {F : Nat → Int} {n : Nat} : hdF F n n = F := by
  funext i
  unfold hdF
  rw [if_neg (by omega)]
theorem blF_s {F A : Nat → Int} {s n : Nat} (hs : s < n) : blF (upF F (7 + s) (A s)) A (s + 1) n = blF F A s n := by
  funext i
  unfold blF upF
  by_cases c : i = 7 + s
  · rw [if_neg (by omega), if_pos c, if_pos (by omega), c]
    congr 1
    omega
  · rw [if_neg c]
    by_cases c1 : 7 + s ≤ i ∧ i < 7 + n
    · rw [if_pos c1, if_pos (by omega)]
    · rw [if_neg c1, if_neg (by omega)]
theorem blF_n {F A : Nat → Int} {n : Nat} : blF F A n n = F := by
  funext i
  unfold blF
  rw [if_neg (by omega)]
theorem l_liked (s : ShM h 88) (k : KOk K) (hL : LwR K L) (en : K 183 = (n : Int)) : ∀ (m t f : Nat) (I : Nat → Nat → Int), t + m = n → I 90 = K → ∃ I', AsFr I' I ∧ lp (d + 44) 235 (f + m + 1) 4 [some (iR (some 88)), some (iI (likedK K L t)), some (iI (t : Int))] [] (st h I J) = some (oI (likedK K L n), st h I' J) := by
  have h7 := k.1
  have hbd : ∀ t : Nat, t ≤ n → 0 ≤ likedK K L t ∧ likedK K L t ≤ 99 * (t : Int) := by
    intro t
    induction t with
    | zero => intro _; show (0 : Int) ≤ 0 ∧ (0 : Int) ≤ 99 * ((0 : Nat) : Int); omega
    | succ t ih =>
      intro ht
      have h1 := ih (by omega)
      have h3 := k.2.1.1 t (by omega)
      have h2 := likeK_in (L := L) k (t := (t : Int)) (s := K t) (by omega)
      show 0 ≤ likedK K L t + likeK K L (t : Int) (K t) ∧ likedK K L t + likeK K L (t : Int) (K t) ≤ 99 * ((t + 1 : Nat) : Int)
      omega
  intro m
  induction m with
  | zero =>
    intro t f I hk e90
    refine ⟨I, AsFr.rf I, ?_⟩
    rw [Nat.add_zero, e_M_likedTogether_4, yck (bT_88 s), s_townMany (d := d + 43) s, kI_o, show I (88 + 2) 183 = (n : Int) by show I 90 183 = _; rw [e90, en], if_neg (by omega), show t = n by omega]
  | succ m ih =>
    intro t f I hk e90
    have ht : t < n := by omega
    have h3 := k.2.1.1 t (by omega)
    have h1 := hbd t (by omega)
    have h2 := likeK_in (L := L) k (t := (t : Int)) (s := K t) (by omega)
    obtain ⟨I1, a1, a2⟩ := m_like (d := d) (J := J) (L := L) (I := I) s (by rw [e90]; exact k) (by rw [e90]; exact hL) (t := (t : Int)) (u := K t) (by rw [e90]; omega) (by rw [e90]; omega)
    rw [e90] at a2
    obtain ⟨I2, b1, b2⟩ := ih (t + 1) f I1 (by omega) (by rw [a1.1 90 (by omega) (by omega)]; exact e90)
    refine ⟨I2, b1.tr a1, ?_⟩
    rw [show f + (m + 1) + 1 = (f + m + 1) + 1 by omega, e_M_likedTogether_4, yck (bT_88 s), s_townMany (d := d + 43) s, kI_o, show I (88 + 2) 183 = (n : Int) by show I 90 183 = _; rw [e90, en], if_pos (by omega), ygR (bT_88 s) (bR_2 s), xB_s, zAI (i := t) (bT_90 s) (bL_90 s) (by rw [wr_id (by omega) (by omega)]; omega) (by omega), e90, yck (bT_88 s), a2, kI_o, wr_id (by omega) (by omega), wr_id (by omega) (by omega)]
    exact b2
theorem m_liked (s : ShM h 88) (k : KOk (I 90)) (hL : LwR (I 90) L) (en : I 90 183 = (n : Int)) : ∃ I', AsFr I' I ∧ rn (d + 45) 235 [iR (some 88)] (st h I J) = some (oI (likedK (I 90) L n), st h I' J) := by
  have h7 := k.1
  obtain ⟨I', a1, a2⟩ := l_liked (d := d) (J := J) s k hL en n 0 (999998 - n) I (by omega) rfl
  rw [show 999998 - n + n + 1 = 999999 by omega] at a2
  refine ⟨I', a1, ?_⟩
  rw [r_M_likedTogether, e_M_likedTogether]
  exact a2
/-- what altering leaves as it is -/
def AlFr (I' I : Nat → Nat → Int) : Prop := (∀ b, b ≠ 88 → b ≠ 100 → b ≠ 103 → I' b = I b) ∧ ∀ i, i ≠ 22 → i ≠ 23 → i ≠ 24 → i ≠ 25 → I' 88 i = I 88 i
theorem l_yr2 (s : ShM h 88) (k : KOk K) (hL : LwR K L) (en : K 183 = (n : Int)) : ∀ (m t f : Nat) (I : Nat → Nat → Int), t + m = n → I 90 = K → (∀ q : Nat, q < t → I 103 (K q).toNat = altK K L (q : Int) (K q)) → ∃ I', AlFr I' I ∧ (∀ q : Nat, q < n → I' 103 (K q).toNat = altK K L (q : Int) (K q)) ∧ lp (d + 44) 234 (f + m + 1) 2 [some (iR (some 88)), some (iI (t : Int)), none] [] (st h I J) = lp (d + 44) 234 f 44 [some (iR (some 88)), some (iI 0), none] [] (st h I' J) := by
  have h7 := k.1
  intro m
  induction m with
  | zero =>
    intro t f I hk e90 hq
    refine ⟨I, ⟨fun _ _ _ _ => rfl, fun _ _ _ _ _ => rfl⟩, by rw [show t = n by omega] at hq; exact hq, ?_⟩
    rw [Nat.add_zero, e_M_yearPasses_2, yck (bT_88 s), s_townMany (d := d + 43) s, kI_o, show I (88 + 2) 183 = (n : Int) by show I 90 183 = _; rw [e90, en], if_neg (by omega)]
  | succ m ih =>
    intro t f I hk e90 hq
    have ht : t < n := by omega
    have h3 := k.2.1.1 t (by omega)
    obtain ⟨I1, a1, a2⟩ := m_alt (d := d) (J := J) (L := L) (I := I) s (by rw [e90]; exact k) (by rw [e90]; exact hL) (t := (t : Int)) (u := K t) (by rw [e90]; omega) (by rw [e90]; omega)
    rw [e90] at a2
    obtain ⟨I2, b1, b2, b3⟩ := ih (t + 1) f (up I1 103 (K t).toNat (altK K L (t : Int) (K t))) (by omega) (by rw [up_na (by omega), a1.1 90 (by omega) (by omega)]; exact e90) (fun q hq2 => by
      by_cases c : q = t
      · rw [c, up_eq]
      · have h4 := k.2.1.1 q (by omega)
        have : (K q).toNat ≠ (K t).toNat := fun z => c (k.inj (by omega) (by omega) (by omega))
        rw [up_ni this, a1.1 103 (by omega) (by omega)]
        exact hq q (by omega))
    refine ⟨I2, ⟨fun b q1 q2 q3 => ?_, fun i q1 q2 q3 q4 => ?_⟩, b2, ?_⟩
    · rw [b1.1 b q1 q2 q3, up_na q3]
      exact a1.1 b q1 q2
    · rw [b1.2 i q1 q2 q3 q4, up_na (by omega)]
      exact a1.2 i q1 q2 q3 q4
    · rw [show f + (m + 1) + 1 = (f + m + 1) + 1 by omega, e_M_yearPasses_2, yck (bT_88 s), s_townMany (d := d + 43) s, kI_o, show I (88 + 2) 183 = (n : Int) by show I 90 183 = _; rw [e90, en], if_pos (by omega), ygR (bT_88 s) (bR_32 s), ygR (bT_88 s) (bR_2 s), xB_s, zAI (i := t) (bT_90 s) (bL_90 s) (by rw [wr_id (by omega) (by omega)]; omega) (by omega), e90, ygR (bT_88 s) (bR_2 s), xB_s, zAI (i := t) (bT_90 s) (bL_90 s) (by rw [wr_id (by omega) (by omega)]; omega) (by omega), e90, yck (bT_88 s), a2, kI_o, xB_s, zSI (i := (K t).toNat) (bT_103 s) (by omega) (bL_103 s) (by omega) (by omega), wr_id (by omega) (by omega)]
      exact b3
theorem l_yr44 (s : ShM h 88) (hn : n ≤ 7) : ∀ (m t f : Nat) (I : Nat → Nat → Int), t + m = n → I 90 183 = (n : Int) → (∀ q : Nat, q < n → 0 ≤ I 90 q ∧ I 90 q < 7) → (∀ i, i < 49 → 0 ≤ I 90 (14 + i) ∧ I 90 (14 + i) ≤ 99) → ∃ I', (∀ b, b ≠ 90 → I' b = I b) ∧ I' 90 = hdF (I 90) t n ∧ lp (d + 1) 234 (f + m + 1) 44 [some (iR (some 88)), some (iI (t : Int)), none] [] (st h I J) = lp (d + 1) 234 f 95 [some (iR (some 88)), some (iI 0), none] [] (st h I' J) := by
  intro m
  induction m with
  | zero =>
    intro t f I hk e183 hq hh
    refine ⟨I, fun _ _ => rfl, by rw [show t = n by omega, hdF_n], ?_⟩
    rw [Nat.add_zero, e_M_yearPasses_44, yck (bT_88 s), s_townMany s, kI_o, show I (88 + 2) 183 = (n : Int) from e183, if_neg (by omega)]
  | succ m ih =>
    intro t f I hk e183 hq hh
    have ht : t < n := by omega
    have h3 := hq t ht
    have h4 := hh (7 * t + (I 90 t).toNat) (by omega)
    obtain ⟨I2, b1, b2, b3⟩ := ih (t + 1) f (up I 90 (14 + (7 * t + (I 90 t).toNat)) (if 99 < I 90 (14 + (7 * t + (I 90 t).toNat)) + 1 then 99 else I 90 (14 + (7 * t + (I 90 t).toNat)) + 1)) (by omega) (by rw [up_ni (by omega)]; exact e183) (fun q hq2 => by rw [up_ni (by omega)]; exact hq q hq2) (fun i hi => by
      rw [up_at]
      have := hh i hi
      split
      · split <;> omega
      · exact this)
    refine ⟨I2, fun b hb => (b1 b hb).trans (up_na hb), by rw [b2, up_F, hdF_s ht hn (by omega) (by omega)], ?_⟩
    have wi : wr (14 + (7 * (t : Int) + I 90 t)) = ((14 + (7 * t + (I 90 t).toNat) : Nat) : Int) := by rw [wr_id (by omega) (by omega)]; omega
    rw [show f + (m + 1) + 1 = (f + m + 1) + 1 by omega, e_M_yearPasses_44, yck (bT_88 s), s_townMany s, kI_o, show I (88 + 2) 183 = (n : Int) from e183, if_pos (by omega), ygR (bT_88 s) (bR_2 s), xB_s, zAI (i := t) (bT_90 s) (bL_90 s) (by rw [wr_id (by omega) (by omega)]; omega) (by omega), s_pairAt (d := d) _ (by omega) (by omega), kI_o, ygR (bT_88 s) (bR_2 s), ygR (bT_88 s) (bR_2 s), xB_s, wi, yaN (bT_90 s) (bL_90 s) (by omega), s_lesser (d := d), kI_o, xB_s, ysN (bT_90 s) (by omega) (bL_90 s) (by omega), wr_id (x := I 90 (14 + (7 * t + (I 90 t).toNat)) + 1) (by omega) (by omega), wr_id (by omega) (by omega)]
    exact b3
theorem l_yr95 (s : ShM h 88) (hn : n ≤ 7) {A : Nat → Int} : ∀ (m t f : Nat) (I : Nat → Nat → Int), t + m = n → I 90 183 = (n : Int) → (∀ q : Nat, q < n → I 103 q = A q) → (0 ≤ I 90 112 ∧ I 90 112 ≤ 999) → ∃ I', (∀ b, b ≠ 90 → I' b = I b) ∧ I' 90 = upF (blF (I 90) A t n) 112 (I 90 112 + 1) ∧ lp (d + 1) 234 (f + m + 1) 95 [some (iR (some 88)), some (iI (t : Int)), none] [] (st h I J) = some (o0, st h I' J) := by
  intro m
  induction m with
  | zero =>
    intro t f I hk e183 hq hy
    refine ⟨up I 90 112 (I 90 112 + 1), fun b hb => up_na hb, by rw [up_F, show t = n by omega, blF_n], ?_⟩
    rw [Nat.add_zero, e_M_yearPasses_95, yck (bT_88 s), s_townMany s, kI_o, show I (88 + 2) 183 = (n : Int) from e183, if_neg (by omega), ygR (bT_88 s) (bR_2 s), xB_s, zAI (i := 112) (j := 112) (bT_90 s) (bL_90 s) rfl (by omega), xB_s, zSI (i := 112) (j := 112) (bT_90 s) (by omega) (bL_90 s) rfl (by omega), wr_id (by omega) (by omega)]
  | succ m ih =>
    intro t f I hk e183 hq hy
    have ht : t < n := by omega
    obtain ⟨I2, b1, b2, b3⟩ := ih (t + 1) f (up I 90 (7 + t) (A t)) (by omega) (by rw [up_ni (by omega)]; exact e183) (fun q hq2 => by rw [up_na (by omega)]; exact hq q hq2) (by rw [up_ni (by omega)]; exact hy)
    refine ⟨I2, fun b hb => (b1 b hb).trans (up_na hb), by rw [b2, up_F, blF_s ht]; congr 1; rw [show upF (I 90) (7 + t) (A t) 112 = I 90 112 from if_neg (by omega)], ?_⟩
    rw [show f + (m + 1) + 1 = (f + m + 1) + 1 by omega, e_M_yearPasses_95, yck (bT_88 s), s_townMany s, kI_o, show I (88 + 2) 183 = (n : Int) from e183, if_pos (by omega), ygR (bT_88 s) (bR_2 s), ygR (bT_88 s) (bR_32 s), xB_s, yaN (bT_103 s) (bL_103 s) (by omega), hq t ht, xB_s, zSI (i := 7 + t) (bT_90 s) (by omega) (bL_90 s) (by rw [wr_id (by omega) (by omega)]; omega) (by omega), wr_id (by omega) (by omega)]
    exact b3
/-- a year passes -/
theorem m_year (s : ShM h 88) {I : Nat → Nat → Int} (k : KOk (I 90)) (hL : LwR (I 90) L) (en : I 90 183 = (n : Int)) : ∃ I', KpFr I' I ∧ (I' 101 = I 101 ∧ I' 88 31 = I 88 31) ∧ I' 90 = passK (I 90) L n ∧ rn (d + 45) 234 [iR (some 88)] (st h I J) = some (o0, st h I' J) := by
  have h7 := k.1
  obtain ⟨I1, a1, a2, a3⟩ := l_yr2 (d := d) (J := J) s k hL en n 0 (999998 - n) I (by omega) rfl (fun q hq => by omega)
  have e90 : I1 90 = I 90 := a1.1 90 (by omega) (by omega) (by omega)
  obtain ⟨I2, b1, b2, b3⟩ := l_yr44 (d := d + 43) (J := J) (n := n) s (by omega) n 0 (999998 - n - n - 1) I1 (by omega) (by rw [e90]; exact en) (fun q hq => by rw [e90]; have := k.2.1.1 q (by omega); omega) (fun i hi => by rw [e90]; exact (k.2.2.1.2.1 i hi).1)
  obtain ⟨I3, c1, c2, c3⟩ := l_yr95 (d := d + 43) (J := J) (n := n) s (by omega) (A := fun q => altK (I 90) L (atK (I 90) (q : Int)) (q : Int)) n 0 (999998 - n - n - 1 - n - 1) I2 (by omega) (by rw [b2, e90]; unfold hdF; rw [if_neg (by omega)]; exact en) (fun q hq => by
    rw [b1 103 (by omega)]
    have ha := atK_ok k (s := (q : Int)) (by omega)
    have := a2 (atK (I 90) (q : Int)).toNat (by omega)
    rw [ha.2, Int.toNat_natCast, show (((atK (I 90) (q : Int)).toNat : Nat) : Int) = atK (I 90) (q : Int) by omega] at this
    exact this) (by rw [b2, e90]; unfold hdF; rw [if_neg (by omega)]; exact k.2.2.2.1.1)
  have e112 : I2 90 112 = I 90 112 := by
    rw [b2, e90]
    unfold hdF
    rw [if_neg (by omega)]
  refine ⟨I3, ⟨fun b q1 q2 q3 q4 q5 => ?_, fun i q1 q2 q3 q4 q5 => ?_⟩, ⟨?_, ?_⟩, ?_, ?_⟩
  · rw [c1 b q2, b1 b q2]
    exact a1.1 b q1 q3 q5
  · rw [c1 88 (by omega), b1 88 (by omega)]
    exact a1.2 i q1 q2 q3 q4
  · rw [c1 101 (by omega), b1 101 (by omega)]
    exact a1.1 101 (by omega) (by omega) (by omega)
  · rw [c1 88 (by omega), b1 88 (by omega)]
    exact a1.2 31 (by omega) (by omega) (by omega) (by omega)
  · rw [c2, b2, e90]
    unfold passK
    congr 1
  · rw [show 999998 - n + n + 1 = 999999 by omega] at a3
    rw [show 999998 - n - n - 1 + n + 1 = 999998 - n by omega] at b3
    rw [show 999998 - n - n - 1 - n - 1 + n + 1 = 999998 - n - n - 1 by omega] at c3
    have a3' : lp (d + 44) 234 999999 2 [some (iR (some 88)), some (iI 0), none] [] (st h I J) = _ := a3
    have b3' : lp (d + 44) 234 (999998 - n) 44 [some (iR (some 88)), some (iI 0), none] [] (st h I1 J) = _ := b3
    have c3' : lp (d + 44) 234 (999998 - n - n - 1) 95 [some (iR (some 88)), some (iI 0), none] [] (st h I2 J) = _ := c3
    rw [r_M_yearPasses, e_M_yearPasses, a3', b3', c3']
noncomputable def passV (K : Nat → Int) (L : LwV) : Int := if K 112 = 999 then -3 else likedK K L (K 183).toNat
theorem m_passK (s : ShM h 88) {I : Nat → Nat → Int} (k : KOk (I 90)) (hL : LwR (I 90) L) {u : Nat} (e31 : I 88 31 = (u : Int)) (hu : u ≤ 16) : ∃ I', rn (d + 46) 239 [iR (some 88)] (st h I J) = some (oI (passV (I 90) L), st h I' J) ∧ (passV (I 90) L < 0 → I' = I) ∧ (0 ≤ passV (I 90) L → I 90 112 ≠ 999 ∧ KtG I' I (passK (I 90) L (I 90 183).toNat) 3) := by
  have h7 := k.1
  unfold passV
  rw [r_M_passesKept, e_M_passesKept, ygR (bT_88 s) (bR_2 s), xB_s, zAI (i := 112) (j := 112) (bT_90 s) (bL_90 s) rfl (by omega)]
  by_cases c : I 90 112 = 999
  · rw [if_pos c, if_pos c]
    exact ⟨I, rfl, fun _ => rfl, fun z => absurd z (by decide)⟩
  have hpos : ∀ t : Nat, (t : Int) ≤ I 90 183 → 0 ≤ likedK (I 90) L t := by
    intro t
    induction t with
    | zero => intro _; exact Int.le_refl _
    | succ t ih =>
      intro ht
      have h1 := ih (by omega)
      have h3 := k.2.1.1 t (by omega)
      have h2 := likeK_in (L := L) k (t := (t : Int)) (s := I 90 t) (by omega)
      show 0 ≤ likedK (I 90) L t + likeK (I 90) L (t : Int) (I 90 t)
      omega
  obtain ⟨I1, a1, a2⟩ := m_liked (d := d) (J := J) (n := (I 90 183).toNat) s k hL (by omega)
  have e90 : I1 90 = I 90 := a1.1 90 (by omega) (by omega)
  obtain ⟨I2, b1, b2, b3, b4⟩ := s_keeps (d := d + 44) (J := J) (kind := 3) (I := I1) s (u := u) (by rw [a1.2 31 (by omega) (by omega) (by omega) (by omega)]; exact e31) hu
  have e91 : I2 90 = I 90 := (b1 90 (by omega) (by omega)).trans e90
  obtain ⟨I3, c1, ⟨c2, c3⟩, c4, c5⟩ := m_year (d := d) (J := J) (L := L) (I := I2) (n := (I 90 183).toNat) s (by rw [e91]; exact k) (by rw [e91]; exact hL) (by rw [e91]; omega)
  rw [if_neg c, if_neg c, yck (bT_88 s), a2, kI_o, yck (bT_88 s), b3, kV_o, yck (bT_88 s), c5, kV_o]
  refine ⟨I3, rfl, fun z => ?_, fun _ => ⟨c, ⟨fun q q1 q2 q3 q4 q5 => ?_, fun i q1 q2 q3 q4 q5 => ?_⟩, by rw [c4, e91], ?_⟩⟩
  · have := hpos (I 90 183).toNat (by omega)
    omega
  · rw [c1.1 q q1 q2 q3 q4 q5, b1 q q1 q4]
    exact a1.1 q q1 q3
  · rw [c1.2 i q1 q2 q3 q4 q5, b2 i q5]
    exact a1.2 i q1 q2 q3 q4
  · exact (b4.of (a1.2 31 (by omega) (by omega) (by omega) (by omega)) (a1.1 90 (by omega) (by omega)) (a1.1 101 (by omega) (by omega))).to c3 c2
end P89
