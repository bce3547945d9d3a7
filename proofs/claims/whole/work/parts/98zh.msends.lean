/-! What could be sent: the reference (by program, wip/whole/gen98zh.py) -/
noncomputable def sndK (K : Nat → Int) (L : LwV) (s p t : Nat) : Bool := decide (sendK K L (s : Int) (p : Int) (t : Int) = 1)
def SnFr (I' I : Nat → Nat → Int) : Prop := (∀ b, b ≠ 88 → b ≠ 100 → b ≠ 112 → I' b = I b) ∧ ∀ i, i ≠ 22 → i ≠ 23 → i ≠ 24 → i ≠ 25 → I' 88 i = I 88 i
def FlM (I : Nat → Nat → Int) (n : Nat) (snd : Nat → Nat → Nat → Bool) (cur : Nat) : Prop := ∀ s p t, s < n → p < n → t < n → 49 * s + (7 * p + t) < cur → I 112 (49 * s + (7 * p + t)) = if snd s p t = true then 1 else 0
section P98zh
variable {d n : Nat} {I I' J A B C : Nat → Nat → Int} {h : IH} {K : Nat → Int} {L : LwV} {snd : Nat → Nat → Nat → Bool}
theorem SnFr.rf (I : Nat → Nat → Int) : SnFr I I := ⟨fun _ _ _ _ => rfl, fun _ _ _ _ _ => rfl⟩
theorem SnFr.tr (h1 : SnFr A B) (h2 : SnFr B C) : SnFr A C := ⟨fun b q1 q2 q3 => (h1.1 b q1 q2 q3).trans (h2.1 b q1 q2 q3), fun i q1 q2 q3 q4 => (h1.2 i q1 q2 q3 q4).trans (h2.2 i q1 q2 q3 q4)⟩
theorem AsFr.sn (f : AsFr A B) : SnFr A B := ⟨fun b q1 q2 _ => f.1 b q1 q2, f.2⟩
theorem SnFr.u (I : Nat → Nat → Int) (i : Nat) (x : Int) : SnFr (up I 112 i x) I := ⟨fun b _ _ q => up_na q, fun i _ _ _ _ => by rw [up_na (by omega)]⟩
theorem sndK_pp (k : KOk K) {s p : Nat} (hp : p < 7) : sndK K L s p p = false := by
  unfold sndK sendK milesK
  have e : K (120 + (7 * (p : Int) + (p : Int)).toNat) = 0 := by
    rw [show (7 * (p : Int) + (p : Int)).toNat = 8 * p by omega]
    exact k.2.2.1.2.2.2 p hp
  rw [e, if_neg (fun z => absurd z.1.1 (by decide))]
  rfl
theorem FlM.put {cur : Nat} (w : FlM I n snd cur) {s p t : Nat} (hn : n ≤ 7) (ht : t < n) (hp : p < n) {x : Int} (ec : cur = 49 * s + (7 * p + t)) (hx : x = if snd s p t = true then 1 else 0) : FlM (up I 112 cur x) n snd (cur + 1) := by
  intro s' p' t' h1 h2 h3 h4
  rw [up_at]
  by_cases c : 49 * s' + (7 * p' + t') = cur
  · rw [if_pos c, hx, show s' = s by omega, show p' = p by omega, show t' = t by omega]
  · rw [if_neg c]
    exact w s' p' t' h1 h2 h3 (by omega)
theorem l_sd22 (m : ShM h 88) (k : KOk K) (hL : LwR K L) (en : K 183 = (n : Int)) {s p : Nat} (hs : s < n) (hp : p < n) : ∀ (q t f : Nat) (I : Nat → Nat → Int), t + q = n → I 90 = K → FlM I n (sndK K L) (49 * s + (7 * p + t)) → ∃ I1, SnFr I1 I ∧ FlM I1 n (sndK K L) (49 * s + 7 * (p + 1)) ∧ lp (d + 45) 258 (f + q + 1) 22 [some (iR (some 88)), some (iI (s : Int)), some (iI (p : Int)), some (iI (t : Int))] [] (st h I J) = lp (d + 45) 258 f 12 [some (iR (some 88)), some (iI (s : Int)), some (iI ((p + 1 : Nat) : Int)), none] [] (st h I1 J) := by
  have hn := k.1
  intro q
  induction q with
  | zero =>
    intro t f I ht e90 w
    refine ⟨I, SnFr.rf _, fun s' p' t' h1 h2 h3 h4 => w s' p' t' h1 h2 h3 (by omega), ?_⟩
    rw [Nat.add_zero, e_M_laysSends_22, yck (bT_88 m), m_many m (x := (n : Int)) (by rw [e90]; exact en), kI_o, if_neg (by omega), wr_id (x := (p : Int) + 1) (by omega) (by omega)]
    rfl
  | succ q ih =>
    intro t f I ht e90 w
    have w1 : wr ((t : Int) + 1) = ((t + 1 : Nat) : Int) := by rw [wr_id (by omega) (by omega)]; omega
    have wi : wr ((wr (49 * (s : Int))) + (7 * (p : Int) + (t : Int))) = ((49 * s + (7 * p + t) : Nat) : Int) := by
      rw [wr_id (x := 49 * (s : Int)) (by omega) (by omega), wr_id (by omega) (by omega)]
      omega
    rw [show f + (q + 1) + 1 = (f + q + 1) + 1 by omega, e_M_laysSends_22, yck (bT_88 m), m_many m (x := (n : Int)) (by rw [e90]; exact en), kI_o, if_pos (by omega), ygR (bT_88 m) (bR_43 m), s_pairAt _ (by omega) (by omega), kI_o, w1, wi]
    by_cases c : p = t
    · have hw := w.put (s := s) (p := p) (t := t) (by omega) (by omega) hp (x := 0) rfl (by rw [← c, sndK_pp k (by omega), if_neg (by decide)])
      obtain ⟨I1, a1, a2, a3⟩ := ih (t + 1) f (up I 112 (49 * s + (7 * p + t)) 0) (by omega) (by rw [up_na (by omega)]; exact e90) hw
      refine ⟨I1, a1.tr (SnFr.u _ _ _), a2, ?_⟩
      rw [if_pos (by omega), xB_s, ysB3 (bT_112 m) (by omega) (bL_112 m) (by omega) (by omega), Int.toNat_natCast, show n1 0 = 0 by decide]
      exact a3
    · obtain ⟨I2, b1, b2⟩ := m_send (d := d) (J := J) (I := I) (L := L) m (by rw [e90]; exact k) (by rw [e90]; exact hL) (u := (s : Int)) (p := (p : Int)) (t := (t : Int)) (by omega) (by omega) (by omega)
      rw [e90] at b2
      have e92 : I2 90 = K := (b1.1 90 (by omega) (by omega)).trans e90
      have w2 : FlM I2 n (sndK K L) (49 * s + (7 * p + t)) := fun s' p' t' h1 h2 h3 h4 => by
        rw [b1.1 112 (by omega) (by omega)]
        exact w s' p' t' h1 h2 h3 h4
      rw [if_neg (by omega), yck (bT_88 m), b2, kI_o]
      rcases sendK_01 (K := K) (L := L) (s : Int) (p : Int) (t : Int) with z | z
      · have hw := w2.put (s := s) (p := p) (t := t) (by omega) (by omega) hp (x := 0) rfl (by
          unfold sndK
          rw [z, if_neg (by decide)])
        obtain ⟨I1, a1, a2, a3⟩ := ih (t + 1) f (up I2 112 (49 * s + (7 * p + t)) 0) (by omega) (by rw [up_na (by omega)]; exact e92) hw
        refine ⟨I1, (a1.tr (SnFr.u _ _ _)).tr b1.sn, a2, ?_⟩
        rw [if_pos z, xB_s, ysB3 (bT_112 m) (by omega) (bL_112 m) (by omega) (by omega), Int.toNat_natCast, show n1 0 = 0 by decide]
        exact a3
      · have hw := w2.put (s := s) (p := p) (t := t) (by omega) (by omega) hp (x := 1) rfl (by
          unfold sndK
          rw [z, if_pos (by decide)])
        obtain ⟨I1, a1, a2, a3⟩ := ih (t + 1) f (up I2 112 (49 * s + (7 * p + t)) 1) (by omega) (by rw [up_na (by omega)]; exact e92) hw
        refine ⟨I1, (a1.tr (SnFr.u _ _ _)).tr b1.sn, a2, ?_⟩
        rw [if_neg (by rw [z]; decide), xB_s, ysB3 (bT_112 m) (by omega) (bL_112 m) (by omega) (by omega), Int.toNat_natCast, show n1 1 = 1 by decide]
        exact a3
theorem l_sd12 (m : ShM h 88) (k : KOk K) (hL : LwR K L) (en : K 183 = (n : Int)) {s : Nat} (hs : s < n) : ∀ (q p f : Nat) (I : Nat → Nat → Int), p + q = n → I 90 = K → FlM I n (sndK K L) (49 * s + 7 * p) → ∃ (I1 : Nat → Nat → Int) (f' : Nat), SnFr I1 I ∧ FlM I1 n (sndK K L) (49 * (s + 1)) ∧ f ≤ f' ∧ lp (d + 45) 258 (f + 10 * q + 1) 12 [some (iR (some 88)), some (iI (s : Int)), some (iI (p : Int)), none] [] (st h I J) = lp (d + 45) 258 f' 2 [some (iR (some 88)), some (iI ((s + 1 : Nat) : Int)), none, none] [] (st h I1 J) := by
  have hn := k.1
  intro q
  induction q with
  | zero =>
    intro p f I hp e90 w
    refine ⟨I, f, SnFr.rf _, fun s' p' t' h1 h2 h3 h4 => w s' p' t' h1 h2 h3 (by omega), Nat.le_refl _, ?_⟩
    rw [show f + 10 * 0 + 1 = f + 1 by omega, e_M_laysSends_12, yck (bT_88 m), m_many m (x := (n : Int)) (by rw [e90]; exact en), kI_o, if_neg (by omega), wr_id (x := (s : Int) + 1) (by omega) (by omega)]
    rfl
  | succ q ih =>
    intro p f I hp e90 w
    obtain ⟨I1, a1, a2, a3⟩ := l_sd22 (d := d) (J := J) m k hL en hs (show p < n by omega) n 0 (f + 10 * q + 1 + (8 - n)) I (by omega) e90 (by rw [Nat.add_zero]; exact w)
    rw [show f + 10 * q + 1 + (8 - n) + n + 1 = f + 10 * (q + 1) by omega] at a3
    obtain ⟨I2, f', b1, b2, bf, b3⟩ := ih (p + 1) (f + (8 - n)) I1 (by omega) ((a1.1 90 (by omega) (by omega) (by omega)).trans e90) a2
    rw [show f + (8 - n) + 10 * q + 1 = f + 10 * q + 1 + (8 - n) by omega] at b3
    refine ⟨I2, f', b1.tr a1, b2, by omega, ?_⟩
    rw [e_M_laysSends_12, yck (bT_88 m), m_many m (x := (n : Int)) (by rw [e90]; exact en), kI_o, if_pos (by omega)]
    exact a3.trans b3
theorem l_sd2 (m : ShM h 88) (k : KOk K) (hL : LwR K L) (en : K 183 = (n : Int)) : ∀ (q s f : Nat) (I : Nat → Nat → Int), s + q = n → I 90 = K → FlM I n (sndK K L) (49 * s) → ∃ I1, SnFr I1 I ∧ SdM I1 n (sndK K L) ∧ lp (d + 45) 258 (f + 100 * q + 1) 2 [some (iR (some 88)), some (iI (s : Int)), none, none] [] (st h I J) = some (o0, st h I1 J) := by
  have hn := k.1
  intro q
  induction q with
  | zero =>
    intro s f I hs e90 w
    refine ⟨I, SnFr.rf _, fun s' p' t' h1 h2 h3 => w s' p' t' h1 h2 h3 (by omega), ?_⟩
    rw [show f + 100 * 0 + 1 = f + 1 by omega, e_M_laysSends_2, yck (bT_88 m), m_many m (x := (n : Int)) (by rw [e90]; exact en), kI_o, if_neg (by omega)]
  | succ q ih =>
    intro s f I hs e90 w
    obtain ⟨I1, f', a1, a2, af, a3⟩ := l_sd12 (d := d) (J := J) m k hL en (show s < n by omega) n 0 (f + 100 * q + 1 + (98 - 10 * n)) I (by omega) e90 w
    rw [show f + 100 * q + 1 + (98 - 10 * n) + 10 * n + 1 = f + 100 * (q + 1) by omega] at a3
    obtain ⟨I2, b1, b2, b3⟩ := ih (s + 1) (f' - (100 * q + 1)) I1 (by omega) ((a1.1 90 (by omega) (by omega) (by omega)).trans e90) a2
    rw [show f' - (100 * q + 1) + 100 * q + 1 = f' by omega] at b3
    refine ⟨I2, b1.tr a1, b2, ?_⟩
    rw [e_M_laysSends_2, yck (bT_88 m), m_many m (x := (n : Int)) (by rw [e90]; exact en), kI_o, if_pos (by omega)]
    exact a3.trans b3
theorem s_sends (m : ShM h 88) (k : KOk K) (hL : LwR K L) (en : K 183 = (n : Int)) (e90 : I 90 = K) : ∃ I1, SnFr I1 I ∧ SdM I1 n (sndK K L) ∧ rn (d + 46) 258 [iR (some 88)] (st h I J) = some (o0, st h I1 J) := by
  have hn := k.1
  obtain ⟨I1, a1, a2, a3⟩ := l_sd2 (d := d) (J := J) m k hL en n 0 (999998 - 100 * n) I (by omega) e90 (fun s p t _ _ _ z => by omega)
  rw [show 999998 - 100 * n + 100 * n + 1 = 999999 by omega] at a3
  refine ⟨I1, a1, a2, ?_⟩
  rw [r_M_laysSends, e_M_laysSends]
  exact a3
end P98zh
