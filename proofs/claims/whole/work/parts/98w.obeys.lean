/-! What ORDERS do; the reference obeys (by program, wip/whole/gen98w.py) -/
/-- how all is, how many are done, the latest year's liking, what can be undone -/
abbrev OSt : Type := (Nat → Int) × Int × Int × Nat × (Nat → Nat → Int)
def wdS (K : Nat → Int) (dn lt : Int) (k : Nat) : Int :=
  if k = 0 then K 112 else if k = 1 then dn else if k = 2 then lt else if k = 3 then ((cntSelf K (K 183).toNat : Nat) : Int)
  else if k < 11 then (if ((k - 4 : Nat) : Int) < K 183 then K (k - 4) else -1) else (if ((k - 11 : Nat) : Int) < K 183 then K (7 + (k - 11)) else -1)
noncomputable def mvV (kd : Int) (K : Nat → Int) (L : LwV) (a b c : Int) : Int := if kd = 0 then swapV K L a b else if kd = 1 then roundV K L a b c else if kd = 2 then closeV K a b else passV K L
noncomputable def mvF (kd : Int) (K : Nat → Int) (L : LwV) (n : Nat) (a b c : Int) : Nat → Int := if kd = 0 then swapF K a b else if kd = 1 then roundF K a b c else if kd = 2 then closeF K a b else passK K L n
def sO (kp : Nat) : Nat := if kp = 16 then 1 else 0
def pushN (kp : Nat) : Nat := kp - sO kp + 1
def pushH (kp : Nat) (H : Nat → Nat → Int) (K : Nat → Int) (kd : Int) (i j : Nat) : Int := if i = kp - sO kp then (if j < 113 then K j else kd) else H (i + sO kp) j
noncomputable def oneS (L : LwV) (n : Nat) (cl : Cls) (S : OSt) : Option OSt :=
  if valP cl.2.2 3 (wdS S.1 S.2.1 S.2.2.1) = 1 then @ite _ (okA cl.2.2 1 (wdS S.1 S.2.1 S.2.2.1) 0 (nrK cl.1)) (Classical.propDecidable _)
    (if 0 ≤ mvV cl.1 S.1 L (valP cl.2.2 0 (wdS S.1 S.2.1 S.2.2.1)) (valP cl.2.2 1 (wdS S.1 S.2.1 S.2.2.1)) (valP cl.2.2 2 (wdS S.1 S.2.1 S.2.2.1)) then
      some (mvF cl.1 S.1 L n (valP cl.2.2 0 (wdS S.1 S.2.1 S.2.2.1)) (valP cl.2.2 1 (wdS S.1 S.2.1 S.2.2.1)) (valP cl.2.2 2 (wdS S.1 S.2.1 S.2.2.1)), S.2.1 + 1, (if cl.1 = 3 then mvV cl.1 S.1 L (valP cl.2.2 0 (wdS S.1 S.2.1 S.2.2.1)) (valP cl.2.2 1 (wdS S.1 S.2.1 S.2.2.1)) (valP cl.2.2 2 (wdS S.1 S.2.1 S.2.2.1)) else S.2.2.1), pushN S.2.2.2.1, pushH S.2.2.2.1 S.2.2.2.2 S.1 cl.1) else none) none
  else some S
noncomputable def timesS (L : LwV) (n : Nat) (cl : Cls) : Nat → OSt → Option OSt
  | 0, S => some S
  | q + 1, S => match oneS L n cl S with
    | none => none
    | some S' => timesS L n cl q S'
noncomputable def textS (L : LwV) (n : Nat) (CL : Nat → Cls) : Nat → Nat → OSt → Sum Nat OSt
  | 0, _, S => .inr S
  | k + 1, i, S => match timesS L n (CL i) (CL i).2.1.toNat S with
    | none => .inl i
    | some S' => textS L n CL k (i + 1) S'
/-- as may be -/
def StO (LW : Nat → Nat × (Nat → Cls)) (L : LwV) (n : Nat) (D : Int) (S : OSt) : Prop := CK S.1 LW L n ∧ (0 ≤ S.2.1 ∧ S.2.1 ≤ D) ∧ (-1 ≤ S.2.2.1 ∧ S.2.2.1 ≤ 1000) ∧ S.2.2.2.1 ≤ 16
def smV (x : Int) : Int := if x < 0 then -1 else if x ≤ 1000000 then x else -1
def RuFr (I' I : Nat → Nat → Int) : Prop := (∀ b, b ≠ 88 → b ≠ 90 → b ≠ 100 → b ≠ 101 → b ≠ 103 → I' b = I b) ∧ (∀ i, (i < 22 ∨ i = 26 ∨ i = 29 ∨ i = 30 ∨ (31 < i ∧ i < 48) ∨ 52 < i) → I' 88 i = I 88 i) ∧ ∀ i, 113 ≤ i → I' 90 i = I 90 i
/-- the reference is as S -/
def RO (I : Nat → Nat → Int) (S : OSt) : Prop := I 90 = S.1 ∧ (I 88 27 = S.2.1 ∧ I 88 28 = S.2.2.1) ∧ I 88 31 = (S.2.2.2.1 : Int) ∧ ∀ i j, i < S.2.2.2.1 → j < 114 → I 101 (114 * i + j) = S.2.2.2.2 i j
section P98w
variable {d n c o : Nat} {h : IH} {I I' J A : Nat → Nat → Int} {B : Nat → Int} {K K' : Nat → Int} {L : LwV} {LW : Nat → Nat × (Nat → Cls)} {a b x : Int} {D : Int} {S S' : OSt}
theorem RuFr.rf (I : Nat → Nat → Int) : RuFr I I := ⟨fun _ _ _ _ _ _ => rfl, fun _ _ => rfl, fun _ _ => rfl⟩
theorem RuFr.tr {A B C : Nat → Nat → Int} (h1 : RuFr A B) (h2 : RuFr B C) : RuFr A C := ⟨fun b q1 q2 q3 q4 q5 => (h1.1 b q1 q2 q3 q4 q5).trans (h2.1 b q1 q2 q3 q4 q5), fun i q => (h1.2.1 i q).trans (h2.2.1 i q), fun i q => (h1.2.2 i q).trans (h2.2.2 i q)⟩
theorem AsFr.ru (f : AsFr I' I) : RuFr I' I := ⟨fun b q1 _ q3 _ _ => f.1 b q1 q3, fun i q => f.2 i (by omega) (by omega) (by omega) (by omega), fun i _ => by rw [f.1 90 (by omega) (by omega)]⟩
theorem KpFr.ru (f : KpFr I' I) (e : ∀ i, 113 ≤ i → I' 90 i = I 90 i) : RuFr I' I := ⟨fun b q1 q2 q3 q4 q5 => f.1 b q1 q2 q3 q4 q5, fun i q => f.2 i (by omega) (by omega) (by omega) (by omega) (by omega), e⟩
theorem RuFr.u (I : Nat → Nat → Int) {i : Nat} (x : Int) (hi : ¬ (i < 22 ∨ i = 26 ∨ i = 29 ∨ i = 30 ∨ (31 < i ∧ i < 48) ∨ 52 < i)) : RuFr (up I 88 i x) I := ⟨fun b q1 _ _ _ _ => up_na q1, fun j q => up_ni (fun z => hi (z ▸ q)), fun j _ => by rw [up_na (by omega)]⟩
theorem goI_fr (I : Nat → Nat → Int) (e cd ok tm x g b : Int) : RuFr (goI I e cd ok tm x g b) I := ⟨fun q q1 _ _ _ _ => by unfold goI; rw [evI_na q1, up_na q1, up_na q1, up_na q1, up_na q1, up_na q1, up_na q1], fun i q => by unfold goI; rw [evI_ni (by omega) (by omega), up_ni (by omega), up_ni (by omega), up_ni (by omega), up_ni (by omega), up_ni (by omega), up_ni (by omega)], fun i _ => by unfold goI; rw [evI_na (by omega), up_na (by omega), up_na (by omega), up_na (by omega), up_na (by omega), up_na (by omega), up_na (by omega)]⟩
theorem goI_o {e cd ok tm x g b : Int} {q : Nat} (hq : q ≠ 88) : goI I e cd ok tm x g b q = I q := by
  unfold goI
  rw [evI_na hq, up_na hq, up_na hq, up_na hq, up_na hq, up_na hq, up_na hq]
theorem goI_88 {e cd ok tm x g b : Int} {i : Nat} (h1 : i ≠ 22) (h2 : i ≠ 24) (h3 : i ≠ 25) (h4 : i ≠ 23) (h5 : i < 49 ∨ 52 < i) : goI I e cd ok tm x g b 88 i = I 88 i := by
  unfold goI
  rw [evI_ni h1 h2, up_ni (by omega), up_ni (by omega), up_ni (by omega), up_ni (by omega), up_ni (by omega), up_ni (by omega)]
theorem wsO_S (I : Nat → Nat → Int) : wsO I = wdS (I 90) (I 88 27) (I 88 28) := rfl
theorem RO.ws (r : RO I S) : wsO I = wdS S.1 S.2.1 S.2.2.1 := by
  obtain ⟨r1, ⟨r2, r3⟩, -⟩ := r
  rw [wsO_S, r1, r2, r3]
theorem RO.fr (r : RO I S) (e90 : I' 90 = I 90) (e101 : I' 101 = I 101) (e27 : I' 88 27 = I 88 27) (e28 : I' 88 28 = I 88 28) (e31 : I' 88 31 = I 88 31) : RO I' S := by
  unfold RO at *
  rw [e90, e101, e27, e28, e31]
  exact r
theorem passV_in (k : KOk K) : (K 112 < 999 → 0 ≤ passV K L ∧ passV K L ≤ 693) ∧ (0 ≤ passV K L → K 112 < 999) := by
  have k1 := k.1
  have k7 := k.2.2.2.1.1
  have hp : ∀ t : Nat, (t : Int) ≤ K 183 → 0 ≤ likedK K L t ∧ likedK K L t ≤ 99 * t := by
    intro t
    induction t with
    | zero => intro _; exact ⟨Int.le_refl _, Int.le_refl _⟩
    | succ t ih =>
      intro ht
      have h1 := ih (by omega)
      have h3 := k.2.1.1 t (by omega)
      have h2 := likeK_in (L := L) k (t := (t : Int)) (s := K t) (by omega)
      have e : likedK K L (t + 1) = likedK K L t + likeK K L (t : Int) (K t) := rfl
      omega
  have h7 := hp (K 183).toNat (by omega)
  unfold passV
  by_cases c : K 112 = 999
  · rw [if_pos c]
    exact ⟨fun _ => by omega, fun z => by omega⟩
  · rw [if_neg c]
    exact ⟨fun _ => by omega, fun _ => by omega⟩
theorem wdS_bd (k : KOk K) {dn lt : Int} (h1 : 0 ≤ dn ∧ dn ≤ 100000) (h2 : -1 ≤ lt ∧ lt ≤ 1000) : ∀ i, i < 18 → bdd (wdS K dn lt i) := by
  intro i hi
  have k1 := k.1
  have k7 := k.2.2.2.1.1
  have hc := cntSelf_le K (K 183).toNat
  unfold wdS bdd
  by_cases c0 : i = 0
  · rw [if_pos c0]
    omega
  rw [if_neg c0]
  by_cases c1 : i = 1
  · rw [if_pos c1]
    omega
  rw [if_neg c1]
  by_cases c2 : i = 2
  · rw [if_pos c2]
    omega
  rw [if_neg c2]
  by_cases c3 : i = 3
  · rw [if_pos c3]
    omega
  rw [if_neg c3]
  by_cases c4 : i < 11
  · rw [if_pos c4]
    by_cases c5 : ((i - 4 : Nat) : Int) < K 183
    · rw [if_pos c5]
      have := k.2.1.1 (i - 4) c5
      omega
    · rw [if_neg c5]
      omega
  · rw [if_neg c4]
    by_cases c5 : ((i - 11 : Nat) : Int) < K 183
    · rw [if_pos c5]
      have := (k.2.2.1.1 (i - 11) (by omega)).1
      omega
    · rw [if_neg c5]
      omega
theorem smV_e (h : 0 ≤ smV x) : smV x = x := by
  unfold smV at h ⊢
  by_cases c : x < 0
  · rw [if_pos c] at h
    omega
  rw [if_neg c] at h ⊢
  by_cases c2 : x ≤ 1000000
  · rw [if_pos c2]
  · rw [if_neg c2] at h
    omega
theorem smV_i (h : 0 ≤ x ∧ x ≤ 1000000) : smV x = x := by
  unfold smV
  rw [if_neg (by omega), if_pos h.2]
theorem s_small (h : IH) (x : Int) : rn (d + 1) 281 [iJ x] h = some (oI (smV x), h) := by
  rw [r_M_small, e_M_small]
  unfold smV
  by_cases c : x < 0
  · rw [if_pos ((lcmp_lt _ _).mpr c), if_pos c]
  rw [if_neg (fun z => c ((lcmp_lt _ _).mp z)), if_neg c]
  by_cases c2 : x ≤ 1000000
  · rw [if_pos ((lcmp_le _ _).mpr c2), if_pos c2, wr_id (by omega) (by omega)]
  · rw [if_neg (fun z => c2 ((lcmp_le _ _).mp z)), if_neg c2]
theorem swap_sm (k1 : 0 ≤ K 183 ∧ K 183 ≤ 7) {a b : Int} (h : 0 ≤ swapV K L (smV a) (smV b) ∨ 0 ≤ swapV K L a b) : smV a = a ∧ smV b = b := by
  rcases h with h | h
  · obtain ⟨c1, c2, -⟩ := swapV_c h
    exact ⟨smV_e c1.1, smV_e c2.1⟩
  · obtain ⟨c1, c2, -⟩ := swapV_c h
    exact ⟨smV_i (by omega), smV_i (by omega)⟩
theorem close_sm (k1 : 0 ≤ K 183 ∧ K 183 ≤ 7) {a b : Int} (h : 0 ≤ closeV K (smV a) (smV b) ∨ 0 ≤ closeV K a b) : smV a = a ∧ smV b = b := by
  rcases h with h | h
  · obtain ⟨c1, c2, -⟩ := closeV_c h
    exact ⟨smV_e c1.1, smV_e c2.1⟩
  · obtain ⟨c1, c2, -⟩ := closeV_c h
    exact ⟨smV_i (by omega), smV_i (by omega)⟩
theorem round_sm (k1 : 0 ≤ K 183 ∧ K 183 ≤ 7) {a b c : Int} (h : 0 ≤ roundV K L (smV a) (smV b) (smV c) ∨ 0 ≤ roundV K L a b c) : smV a = a ∧ smV b = b ∧ smV c = c := by
  rcases h with h | h
  · obtain ⟨⟨c1, c2, c3⟩, -⟩ := roundV_c h
    exact ⟨smV_e c1.1, smV_e c2.1, smV_e c3.1⟩
  · obtain ⟨⟨c1, c2, c3⟩, -⟩ := roundV_c h
    exact ⟨smV_i (by omega), smV_i (by omega), smV_i (by omega)⟩
/-- an ORDER obeyed -/
theorem m_obey (s : ShM h 88) {I : Nat → Nat → Int} (k : KOk (I 90)) (hL : LwR (I 90) L) (en : I 90 183 = (n : Int)) {u : Nat} (e31 : I 88 31 = (u : Int)) (hu : u ≤ 16) {kd a b c : Int} (hk : kd = 0 ∨ kd = 1 ∨ kd = 2 ∨ kd = 3) (e50 : I 88 50 = cdK kd) (h0 : 0 < nrK kd → J 116 0 = a) (h1 : 1 < nrK kd → J 116 1 = b) (h2 : 2 < nrK kd → J 116 2 = c) : ∃ I2 v, rn (d + 48) 282 [iR (some 88)] (st h I J) = some (oI v, st h I2 J) ∧ (0 ≤ v ↔ 0 ≤ mvV kd (I 90) L a b c) ∧ RuFr I2 I ∧ (0 ≤ mvV kd (I 90) L a b c → I2 90 = mvF kd (I 90) L n a b c ∧ LfOk I2 I kd ∧ I2 88 27 = I 88 27 ∧ I2 88 28 = (if kd = 3 then mvV kd (I 90) L a b c else I 88 28) ∧ I2 88 48 = I 88 48) := by
  have k1 := k.1
  rcases hk with rfl | rfl | rfl | rfl
  · have e := h0 (by decide)
    have e' := h1 (by decide)
    show ∃ (I2 : Nat → Nat → Int) (v : Int), _ ∧ (0 ≤ v ↔ 0 ≤ swapV (I 90) L a b) ∧ _ ∧ (0 ≤ swapV (I 90) L a b → I2 90 = swapF (I 90) a b ∧ _ ∧ _ ∧ I2 88 28 = I 88 28 ∧ _)
    obtain ⟨I2, a1, a2, a3⟩ := m_swapK (d := d) (J := J) (I := I) (L := L) s k hL e31 hu (smV a) (smV b)
    refine ⟨I2, swapV (I 90) L (smV a) (smV b), ?_, ?_, ?_, fun v => ?_⟩
    rotate_left
    · exact ⟨fun v => by
        obtain ⟨z1, z2⟩ := swap_sm k1 (Or.inl v)
        rw [z1, z2] at v
        exact v, fun v => by rw [(swap_sm k1 (Or.inr v)).1, (swap_sm k1 (Or.inr v)).2]; exact v⟩
    · by_cases v : 0 ≤ swapV (I 90) L (smV a) (smV b)
      · obtain ⟨c1, c2, -, f1, f2, -⟩ := a3 v
        exact f1.ru fun i hi => by rw [f2]; exact swapF_hi (by omega) (by omega) (by omega)
      · exact (a2 (by omega)).ru
    · obtain ⟨-, -, -, f1, f2, f3⟩ := a3 (by rw [(swap_sm k1 (Or.inr v)).1, (swap_sm k1 (Or.inr v)).2]; exact v)
      rw [(swap_sm k1 (Or.inr v)).1, (swap_sm k1 (Or.inr v)).2] at f2
      exact ⟨f2, f3, f1.2 27 (by omega) (by omega) (by omega) (by omega) (by omega), f1.2 28 (by omega) (by omega) (by omega) (by omega) (by omega), f1.2 48 (by omega) (by omega) (by omega) (by omega) (by omega)⟩
    · rw [r_M_obeys, e_M_obeys, ygIv (x := 21) (bT_88 s) e50, if_pos rfl, ygR (bT_88 s) (bR_53 s), xB_s, yaJ (bT_116 s) (bL_116 s) (by omega) (by omega), s_small, kI_o, ygR (bT_88 s) (bR_53 s), xB_s, yaJ (bT_116 s) (bL_116 s) (by omega) (by omega), s_small, kI_o, yck (bT_88 s)]
      show kI (rn (d + 47) 236 [iR (some 88), iI (smV (J 116 0)), iI (smV (J 116 1))] (st h I J)) _ = _
      rw [e, e', a1, kI_o]
  · have e := h0 (by decide)
    have e' := h1 (by decide)
    have e'' := h2 (by decide)
    show ∃ (I2 : Nat → Nat → Int) (v : Int), _ ∧ (0 ≤ v ↔ 0 ≤ roundV (I 90) L a b c) ∧ _ ∧ (0 ≤ roundV (I 90) L a b c → I2 90 = roundF (I 90) a b c ∧ _ ∧ _ ∧ I2 88 28 = I 88 28 ∧ _)
    obtain ⟨I2, a1, a2, a3⟩ := m_roundK (d := d) (J := J) (I := I) (L := L) s k hL e31 hu (smV a) (smV b) (smV c)
    refine ⟨I2, roundV (I 90) L (smV a) (smV b) (smV c), ?_, ?_, ?_, fun v => ?_⟩
    rotate_left
    · exact ⟨fun v => by
        obtain ⟨z1, z2, z3⟩ := round_sm k1 (Or.inl v)
        rw [z1, z2, z3] at v
        exact v, fun v => by rw [(round_sm k1 (Or.inr v)).1, (round_sm k1 (Or.inr v)).2.1, (round_sm k1 (Or.inr v)).2.2]; exact v⟩
    · by_cases v : 0 ≤ roundV (I 90) L (smV a) (smV b) (smV c)
      · obtain ⟨⟨c1, c2, c3⟩, -, f1, f2, -⟩ := a3 v
        exact f1.ru fun i hi => by rw [f2]; exact roundF_hi (by omega) (by omega) (by omega) (by omega)
      · exact (a2 (by omega)).ru
    · obtain ⟨-, -, f1, f2, f3⟩ := a3 (by rw [(round_sm k1 (Or.inr v)).1, (round_sm k1 (Or.inr v)).2.1, (round_sm k1 (Or.inr v)).2.2]; exact v)
      rw [(round_sm k1 (Or.inr v)).1, (round_sm k1 (Or.inr v)).2.1, (round_sm k1 (Or.inr v)).2.2] at f2
      exact ⟨f2, f3, f1.2 27 (by omega) (by omega) (by omega) (by omega) (by omega), f1.2 28 (by omega) (by omega) (by omega) (by omega) (by omega), f1.2 48 (by omega) (by omega) (by omega) (by omega) (by omega)⟩
    · rw [r_M_obeys, e_M_obeys, ygIv (x := 23) (bT_88 s) e50, if_neg (by decide), if_neg (by decide), if_pos rfl, ygR (bT_88 s) (bR_53 s), xB_s, yaJ (bT_116 s) (bL_116 s) (by omega) (by omega), s_small, kI_o, ygR (bT_88 s) (bR_53 s), xB_s, yaJ (bT_116 s) (bL_116 s) (by omega) (by omega), s_small, kI_o, ygR (bT_88 s) (bR_53 s), xB_s, yaJ (bT_116 s) (bL_116 s) (by omega) (by omega), s_small, kI_o, yck (bT_88 s)]
      show kI (rn (d + 47) 237 [iR (some 88), iI (smV (J 116 0)), iI (smV (J 116 1)), iI (smV (J 116 2))] (st h I J)) _ = _
      rw [e, e', e'', a1, kI_o]
  · have e := h0 (by decide)
    have e' := h1 (by decide)
    show ∃ (I2 : Nat → Nat → Int) (v : Int), _ ∧ (0 ≤ v ↔ 0 ≤ closeV (I 90) a b) ∧ _ ∧ (0 ≤ closeV (I 90) a b → I2 90 = closeF (I 90) a b ∧ _ ∧ _ ∧ I2 88 28 = I 88 28 ∧ _)
    obtain ⟨I2, a1, a2, a3⟩ := m_closeK (d := d) (J := J) (I := I) s k e31 hu (smV a) (smV b)
    refine ⟨I2, closeV (I 90) (smV a) (smV b), ?_, ?_, ?_, fun v => ?_⟩
    rotate_left
    · exact ⟨fun v => by
        obtain ⟨z1, z2⟩ := close_sm k1 (Or.inl v)
        rw [z1, z2] at v
        exact v, fun v => by rw [(close_sm k1 (Or.inr v)).1, (close_sm k1 (Or.inr v)).2]; exact v⟩
    · by_cases v : 0 ≤ closeV (I 90) (smV a) (smV b)
      · obtain ⟨c1, c2, -, f1, f2, -⟩ := a3 v
        exact f1.ru fun i hi => by rw [f2]; exact closeF_hi (by omega) (by omega) (by omega)
      · exact (a2 (by omega)).ru
    · obtain ⟨-, -, -, f1, f2, f3⟩ := a3 (by rw [(close_sm k1 (Or.inr v)).1, (close_sm k1 (Or.inr v)).2]; exact v)
      rw [(close_sm k1 (Or.inr v)).1, (close_sm k1 (Or.inr v)).2] at f2
      exact ⟨f2, f3, f1.2 27 (by omega) (by omega) (by omega) (by omega) (by omega), f1.2 28 (by omega) (by omega) (by omega) (by omega) (by omega), f1.2 48 (by omega) (by omega) (by omega) (by omega) (by omega)⟩
    · rw [r_M_obeys, e_M_obeys, ygIv (x := 25) (bT_88 s) e50, if_neg (by decide), if_neg (by decide), if_neg (by decide), if_neg (by decide), if_pos rfl, ygR (bT_88 s) (bR_53 s), xB_s, yaJ (bT_116 s) (bL_116 s) (by omega) (by omega), s_small, kI_o, ygR (bT_88 s) (bR_53 s), xB_s, yaJ (bT_116 s) (bL_116 s) (by omega) (by omega), s_small, kI_o, yck (bT_88 s)]
      show kI (rn (d + 47) 238 [iR (some 88), iI (smV (J 116 0)), iI (smV (J 116 1))] (st h I J)) _ = _
      rw [e, e', a1, kI_o]
  · show ∃ (I2 : Nat → Nat → Int) (v : Int), _ ∧ (0 ≤ v ↔ 0 ≤ passV (I 90) L) ∧ _ ∧ (0 ≤ passV (I 90) L → I2 90 = passK (I 90) L n ∧ _ ∧ _ ∧ I2 88 28 = passV (I 90) L ∧ _)
    obtain ⟨I2, a1, a2, a3⟩ := m_passK (d := d + 1) (J := J) (I := I) (L := L) s k hL e31 hu
    have a1' : rn (d + 47) 239 [iR (some 88)] (st h I J) = _ := a1
    have hx : rn (d + 48) 282 [iR (some 88)] (st h I J) = (if passV (I 90) L < 0 then some (oI (passV (I 90) L), st h I2 J) else some (oI (passV (I 90) L), st h (up I2 88 28 (passV (I 90) L)) J)) := by
      rw [r_M_obeys, e_M_obeys, ygIv (x := 26) (bT_88 s) e50, if_neg (by decide), if_neg (by decide), if_neg (by decide), if_neg (by decide), if_neg (by decide), yck (bT_88 s), a1', kI_o, ygI (bT_88 s), ypI (bT_88 s) (by omega), ypI (bT_88 s) (by omega), up_self]
    by_cases v : 0 ≤ passV (I 90) L
    · rw [if_neg (by omega)] at hx
      obtain ⟨-, f1, f2, f3⟩ := a3 v
      have en' : (I 90 183).toNat = n := by omega
      rw [en'] at f2
      refine ⟨up I2 88 28 (passV (I 90) L), _, hx, Iff.rfl, (RuFr.u I2 _ (by omega)).tr (f1.ru fun i hi => by rw [f2]; exact passK_at i (by omega) (by omega) (by omega)), fun _ => ⟨by rw [up_na (by omega)]; exact f2, f3.to (by rw [up_ni (by omega)]) (by rw [up_na (by omega)]), by rw [up_ni (by omega)]; exact f1.2 27 (by omega) (by omega) (by omega) (by omega) (by omega), up_eq _ _ _ _, by rw [up_ni (by omega)]; exact f1.2 48 (by omega) (by omega) (by omega) (by omega) (by omega)⟩⟩
    · rw [if_pos (by omega)] at hx
      exact ⟨I2, _, hx, Iff.rfl, by rw [a2 (by omega)]; exact RuFr.rf _, fun z => absurd z v⟩
end P98w
