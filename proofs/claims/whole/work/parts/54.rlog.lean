/-! The class's reader: AND, OR (by program, wip/whole/gen54.py) -/
/-- things in a row with one sign c between them -/
def rwLog (B : Nat → Int) (n : Nat) (c : Int) (F : Mng → Mng → Mng) (it : Nat → Nat → RdR) : Nat → Nat → Nat → Mng → RdR
  | 0, p, l, f => .inr (p, l, f)
  | k + 1, p, l, f => if tkC B n p = c then (match it (tkE B n p) l with
    | .inl q => .inl q
    | .inr (p', l', g) => rwLog B n c F it k p' l' (F f g)) else .inr (p, l, f)
def rwLogs (B : Nat → Int) (n : Nat) (c : Int) (F : Mng → Mng → Mng) (it : Nat → Nat → RdR) (p l : Nat) : RdR := match it p l with
  | .inl q => .inl q
  | .inr (p', l', f) => rwLog B n c F it (n - p') p' l' f
section P54
variable {d n nw : Nat} {h : IH} {J : Nat → Nat → Int} {B : Nat → Int} {ord : Int}
theorem RdOk.jump {I : Nat → Nat → Int} {p l m j : Nat} (r : RdOk B n ord I p l m) : RdOk B n ord (up I 46 j (m : Int)) p l m := by
  obtain ⟨⟨a1, a2, a3⟩, ⟨b1, b2, b3, b4, b5⟩, ⟨c1, c2⟩, ⟨e1, e2, e3⟩, g⟩ := r
  refine ⟨⟨by rw [up_na (by omega)]; exact a1, by rw [up_na (by omega)]; exact a2, by rw [up_na (by omega)]; exact a3⟩, ⟨by rw [up_na (by omega)]; exact b1, by rw [up_na (by omega)]; exact b2, by rw [up_na (by omega)]; exact b3, by rw [up_na (by omega)]; exact b4, by rw [up_na (by omega)]; exact b5⟩, ⟨by rw [up_na (by omega)]; exact c1, by rw [up_na (by omega)]; exact c2⟩, ⟨e1, e2, e3⟩, fun i => ?_⟩
  rw [up_na (show 45 ≠ 46 by omega), up_at]
  have := g i
  split <;> omega
theorem RdNo.jump {I : Nat → Nat → Int} {q : Int} {j : Nat} (r : RdNo B n ord I q) : RdNo B n ord (up I 46 j (I 44 6)) q := by
  obtain ⟨⟨a1, a2, a3⟩, ⟨b1, b2, b3⟩, c, g⟩ := r
  refine ⟨⟨by rw [up_na (by omega)]; exact a1, by rw [up_na (by omega)]; exact a2, by rw [up_na (by omega)]; exact a3⟩, ⟨by rw [up_na (by omega)]; exact b1, b2, by rw [up_na (by omega)]; exact b3⟩, by rw [up_na (by omega)]; exact c, fun i => ?_⟩
  rw [up_na (show 45 ≠ 46 by omega), up_at]
  have := g i
  split <;> omega
theorem u46_fr (I : Nat → Nat → Int) (i : Nat) (x : Int) : RdFr (up I 46 i x) I := ⟨fun b hb => up_na (by omega), by rw [up_na (by omega)]⟩
theorem l_log (s : ShT h) (rb : hR h 43 2 = some 42) (hn : n ≤ 400) (hB : ∀ i, 0 ≤ B i ∧ B i ≤ 255) {c op : Int} {F : Mng → Mng → Mng} (h1 : c ≠ 1001) (h2 : c ≠ 1002) (hop : 0 ≤ op ∧ op ≤ 12) (hF : ∀ f g, isTst g → isTst (F f g)) (hS : ∀ {S W : Nat → Int} {p m q n1 n2 : Nat} {f g : Mng}, sem nw S W p m n1 f → isTst f → sem nw S W (m + 1) q n2 g → S m = op → W m = q → sem nw S W p q (n1 + n2) (F f g)) {run : IH → Option IR} {it : Nat → Nat → RdR} (z : RdPr h J B n ord nw isTst run it) {L : Nat → Nat → IH → Option IR}
    (hst : ∀ (I : Nat → Nat → Int) (i f : Nat), i < 401 → I 43 5 ≠ c → L (f + 1) i (st h I J) = some (o0, st h I J))
    (hgo : ∀ (I : Nat → Nat → Int) (i f : Nat), i < 400 → L (f + 1) i (st h I J) = kI (rn (d + 3) 57 [iR (some 43), iI c] (st h I J)) fun x2 g1 => if x2 = 0 then some (o0, g1) else xgR g1 43 15 0 fun x3 => xB x3 fun a5 => xgI g1 a5 19 6 fun x4 => xgR g1 43 15 0 fun x6 => xB x6 fun a7 => xck g1 a7 19 <| kV (rn (d + 3) 84 [iR (some a7), iI op, iI 0] g1) fun g8 => xck g8 43 15 <| kV (run g8) fun g9 => xgR g9 43 15 0 fun x10 => xB x10 fun a11 => xck g9 a11 19 <| kV (rn (d + 3) 86 [iR (some a11), iI x4] g9) fun g12 => L f (i + 1) g12)
    {l0 m0 p0 : Nat} : ∀ (k p l m i fu : Nat) (I I0 : Nat → Nat → Int) (f : Mng), n - p ≤ k → k + 2 ≤ fu → RdOk B n ord I p l m → l ≤ 50 → m + p0 ≤ p + m0 → m0 ≤ p0 → i ≤ p → l0 < l → p0 < p → sem nw (I 45) (I 46) m0 m (l - l0) f → isTst f → SmSt I I0 m0 → ∃ I', RdFr I' I ∧ L fu i (st h I J) = some (o0, st h I' J) ∧ PrG B n ord nw isTst I' I0 p0 l0 m0 (rwLog B n c F it k p l f) := by
  intro k
  induction k with
  | zero =>
    intro p l m i fu I I0 f hk hfu r hl hm hm0 hi hl0 hp0 hf hft hI0
    have hpn : ¬ (tkC B n p ≠ 1001) := fun q => by
      have := tkE_lt r.2.2.2.1.1 q
      omega
    have hc : tkC B n p = 1001 := Decidable.not_not.mp hpn
    have rp := r.2.2.2.1.1
    obtain ⟨fu, rfl⟩ : ∃ q, fu = q + 1 := ⟨fu - 1, by omega⟩
    exact ⟨I, RdFr.rf I, hst I i fu (by omega) (by rw [r.2.1.2.1, hc]; exact fun q => h1 q.symm), PrG.fine r ⟨hl0, hl⟩ hp0 hm hf hft hI0⟩
  | succ k ih =>
    intro p l m i fu I I0 f hk hfu r hl hm hm0 hi hl0 hp0 hf hft hI0
    have rp := r.2.2.2.1.1
    have r5 := r.2.1.2.1
    obtain ⟨fu, rfl⟩ : ∃ q, fu = q + 1 := ⟨fu - 1, by omega⟩
    by_cases cc : tkC B n p = c
    · have hp := tkE_lt rp (show tkC B n p ≠ 1001 by rw [cc]; exact h1)
      have r1 := r.next
      have hm1 := hf.1
      have c2 := r1.2.2.1.2
      obtain ⟨r2, e2⟩ := r1.add (a := op) (b := 0) (by omega) hop (by omega)
      obtain ⟨I1, a1, a3, a4⟩ := z.ok r2 hl (by omega)
      have k1 := (a1.tr (addI_fr _ _ _)).tr (tkI_fr I B n (tkE B n p))
      rw [hgo I i fu (by omega), s_takeY s rb hn hB r cc, kI_o, if_neg (by decide), ygR (aT_43 s) (aR_43_0 s), xB_s, ygI (aT_44 s), c2, ygR (aT_43 s) (aR_43_0 s), xB_s, yck (aT_44 s), s_add s (by omega), kV_o, yck (aT_43 s), a3, kV_o, ygR (aT_43 s) (aR_43_0 s), xB_s, yck (aT_44 s)]
      have e : rwLog B n c F it (k + 1) p l f = (match it (tkE B n p) l with
        | .inl q => .inl q
        | .inr (p', l', g) => rwLog B n c F it k p' l' (F f g)) := if_pos cc
      rw [e]
      cases e1 : it (tkE B n p) l with
      | inl q =>
        have rq := a4.1 q e1
        have rq2 := rq.jump (j := m)
        rw [s_landJump s rq.2.2.1 (by omega), kV_o, if_pos (by omega), Int.toNat_natCast]
        obtain ⟨fu, rfl⟩ : ∃ q, fu = q + 1 := ⟨fu - 1, by omega⟩
        rw [hst _ _ _ (by omega) (by rw [rq2.2.1.2.2]; exact fun q => h2 q.symm)]
        exact ⟨_, (u46_fr _ _ _).tr k1, rfl, PrG.bad rq2⟩
      | inr x =>
        obtain ⟨p', l', g⟩ := x
        obtain ⟨m', b1, b2, b3, b4, b5, b6, b7⟩ := a4.2 p' l' g e1
        have hb5 := b5.1
        have cm := b1.2.2.1.2
        have hm4 : m' ≤ 400 := by have := b1.2.2.2.1.2.1; omega
        rw [s_landJump s (by omega) (by omega), kV_o, if_pos (by omega), Int.toNat_natCast, cm]
        have r3 := b1.jump (j := m)
        have t45 : ∀ j, tkI I B n (tkE B n p) 45 j = I 45 j := fun j => by rw [tkI_na (by omega)]
        have t46 : ∀ j, tkI I B n (tkE B n p) 46 j = I 46 j := fun j => by rw [tkI_na (by omega)]
        have s45 : ∀ j, j < m → I1 45 j = I 45 j := fun j hj => by
          rw [(b7 j (by omega)).1, e2, up_na (by omega), up_na (by omega), up_ni (by omega), t45]
        have s46 : ∀ j, j < m → I1 46 j = I 46 j := fun j hj => by
          rw [(b7 j (by omega)).2, e2, up_na (by omega), up_ni (by omega), up_na (by omega), t46]
        have sm : I1 45 m = op := by rw [(b7 m (by omega)).1, e2, up_na (by omega), up_na (by omega), up_eq]
        have hfs : sem nw (up I1 46 m (m' : Int) 45) (up I1 46 m (m' : Int) 46) m0 m (l - l0) f := hf.fr (fun j j1 j2 => ⟨by rw [up_na (by omega)]; exact s45 j j2, by rw [up_ni (by omega)]; exact s46 j j2⟩)
        have hgs : sem nw (up I1 46 m (m' : Int) 45) (up I1 46 m (m' : Int) 46) (m + 1) m' (l' - l) g := b5.fr (fun j j1 j2 => ⟨by rw [up_na (by omega)], by rw [up_ni (by omega)]⟩)
        have hbs := hS hfs hft hgs (by rw [up_na (by omega)]; exact sm) (by rw [up_eq])
        rw [show l - l0 + (l' - l) = l' - l0 by omega] at hbs
        obtain ⟨I2, g1, g3, g4⟩ := ih p' l' m' (i + 1) fu (up I1 46 m (m' : Int)) I0 (F f g) (by omega) (by omega) r3 b2.2 (by omega) hm0 (by omega) (by omega) (by omega) hbs (hF f g b6) (fun j hj => ⟨by rw [up_na (by omega), s45 j (by omega)]; exact (hI0 j hj).1, by rw [up_ni (by omega), s46 j (by omega)]; exact (hI0 j hj).2⟩)
        exact ⟨I2, g1.tr ((u46_fr _ _ _).tr k1), g3, g4⟩
    · have e : rwLog B n c F it (k + 1) p l f = .inr (p, l, f) := if_neg cc
      rw [e]
      exact ⟨I, RdFr.rf I, hst I i fu (by omega) (by rw [r5]; exact cc), PrG.fine r ⟨hl0, hl⟩ hp0 hm hf hft hI0⟩
theorem pr_logs (s : ShT h) (rb : hR h 43 2 = some 42) (hn : n ≤ 400) (hB : ∀ i, 0 ≤ B i ∧ B i ≤ 255) {c op : Int} {F : Mng → Mng → Mng} (h1 : c ≠ 1001) (h2 : c ≠ 1002) (hop : 0 ≤ op ∧ op ≤ 12) (hF : ∀ f g, isTst g → isTst (F f g)) (hS : ∀ {S W : Nat → Int} {p m q n1 n2 : Nat} {f g : Mng}, sem nw S W p m n1 f → isTst f → sem nw S W (m + 1) q n2 g → S m = op → W m = q → sem nw S W p q (n1 + n2) (F f g)) {run top : IH → Option IR} {it : Nat → Nat → RdR} (z : RdPr h J B n ord nw isTst run it) {L : Nat → Nat → IH → Option IR}
    (hst : ∀ (I : Nat → Nat → Int) (i f : Nat), i < 401 → I 43 5 ≠ c → L (f + 1) i (st h I J) = some (o0, st h I J))
    (hgo : ∀ (I : Nat → Nat → Int) (i f : Nat), i < 400 → L (f + 1) i (st h I J) = kI (rn (d + 3) 57 [iR (some 43), iI c] (st h I J)) fun x2 g1 => if x2 = 0 then some (o0, g1) else xgR g1 43 15 0 fun x3 => xB x3 fun a5 => xgI g1 a5 19 6 fun x4 => xgR g1 43 15 0 fun x6 => xB x6 fun a7 => xck g1 a7 19 <| kV (rn (d + 3) 84 [iR (some a7), iI op, iI 0] g1) fun g8 => xck g8 43 15 <| kV (run g8) fun g9 => xgR g9 43 15 0 fun x10 => xB x10 fun a11 => xck g9 a11 19 <| kV (rn (d + 3) 86 [iR (some a11), iI x4] g9) fun g12 => L f (i + 1) g12)
    (htop : ∀ I, top (st h I J) = kV (run (st h I J)) fun g => L 999999 0 g) : RdPr h J B n ord nw isTst top (rwLogs B n c F it) := by
  refine ⟨fun I p l m r hl hm => ?_, fun I q r => ?_⟩
  · show ∃ I', RdFr I' I ∧ top (st h I J) = some (o0, st h I' J) ∧ PrG B n ord nw isTst I' I p l m (rwLogs B n c F it p l)
    obtain ⟨I1, a1, a2, a3⟩ := z.ok r hl hm
    rw [htop, a2, kV_o]
    unfold rwLogs
    cases e : it p l with
    | inl q =>
      have rq := a3.1 q e
      exact ⟨I1, a1, hst I1 0 999998 (by omega) (by rw [rq.2.1.2.2]; exact fun q => h2 q.symm), PrG.bad rq⟩
    | inr x =>
      obtain ⟨p', l', g⟩ := x
      obtain ⟨m', b1, b2, b3, b4, b5, b6, b7⟩ := a3.2 p' l' g e
      have hpn := b1.2.2.2.1.1
      obtain ⟨I2, g1, g2, g3⟩ := l_log s rb hn hB h1 h2 hop hF hS z hst hgo (n - p') p' l' m' 0 999999 I1 I g (Nat.le_refl _) (by omega) b1 b2.2 b4 hm (by omega) b2.1 b3 b5 b6 b7
      exact ⟨I2, g1.tr a1, g2, g3⟩
  · obtain ⟨I1, a1, a2, a3⟩ := z.2 I q r
    refine ⟨I1, a1, ?_, a3⟩
    rw [htop, a2, kV_o]
    exact hst I1 0 999998 (by omega) (by rw [a3.2.1.2.2]; exact fun q => h2 q.symm)
theorem pr_both (s : ShT h) (rb : hR h 43 2 = some 42) (hn : n ≤ 400) (hB : ∀ i, 0 ≤ B i ∧ B i ≤ 255) {br : Int} {it : Nat → Nat → RdR} (z : RdPr h J B n ord nw isTst (fun g => rn (d + 3) 66 [iR (some 43), iI br] g) it) : RdPr h J B n ord nw isTst (fun g => rn (d + 4) 65 [iR (some 43), iI br] g) (rwLogs B n 281 conF it) := by
  refine pr_logs (d := d) s rb hn hB (c := 281) (op := 11) (by decide) (by decide) (by omega) (fun f g hg => isTst_con hg) (fun a b c e f => sem_con a b c e f) z (L := fun f i g => lp (d + 3) 65 f 7 [some (iR (some 43)), some (iI br), some (iI (i : Nat)), none] [] g) (fun I i f hi ho => ?_) (fun I i f hi => ?_) (fun I => ?_)
  · show lp (d + 3) 65 (f + 1) 7 [some (iR (some 43)), some (iI br), some (iI (i : Nat)), none] [] (st h I J) = _
    rw [e_Rd_readBoth_7]
    by_cases c : (i : Int) < 400
    · rw [if_pos c, yck (aT_43 s), s_takeX s ho, kI_o, if_pos rfl]
    · rw [if_neg c]
  · show lp (d + 3) 65 (f + 1) 7 [some (iR (some 43)), some (iI br), some (iI (i : Nat)), none] [] (st h I J) = _
    have hw : wr ((i : Int) + 1) = ((i + 1 : Nat) : Int) := by rw [wr_id (by omega) (by omega)]; rfl
    rw [e_Rd_readBoth_7, if_pos (by omega), yck (aT_43 s), hw]
  · show rn (d + 4) 65 [iR (some 43), iI br] (st h I J) = _
    rw [r_Rd_readBoth, e_Rd_readBoth, yck (aT_43 s)]
    rfl
theorem pr_test (s : ShT h) (rb : hR h 43 2 = some 42) (hn : n ≤ 400) (hB : ∀ i, 0 ≤ B i ∧ B i ≤ 255) {br : Int} {it : Nat → Nat → RdR} (z : RdPr h J B n ord nw isTst (fun g => rn (d + 4) 65 [iR (some 43), iI br] g) it) : RdPr h J B n ord nw isTst (fun g => rn (d + 5) 64 [iR (some 43), iI br] g) (rwLogs B n 280 disF it) := by
  refine pr_logs (d := d + 1) s rb hn hB (c := 280) (op := 12) (by decide) (by decide) (by omega) (fun f g hg => isTst_dis hg) (fun a b c e f => sem_dis a b c e f) z (L := fun f i g => lp (d + 4) 64 f 7 [some (iR (some 43)), some (iI br), some (iI (i : Nat)), none] [] g) (fun I i f hi ho => ?_) (fun I i f hi => ?_) (fun I => ?_)
  · show lp (d + 4) 64 (f + 1) 7 [some (iR (some 43)), some (iI br), some (iI (i : Nat)), none] [] (st h I J) = _
    rw [e_Rd_readTest_7]
    by_cases c : (i : Int) < 400
    · rw [if_pos c, yck (aT_43 s), s_takeX s ho, kI_o, if_pos rfl]
    · rw [if_neg c]
  · show lp (d + 4) 64 (f + 1) 7 [some (iR (some 43)), some (iI br), some (iI (i : Nat)), none] [] (st h I J) = _
    have hw : wr ((i : Int) + 1) = ((i + 1 : Nat) : Int) := by rw [wr_id (by omega) (by omega)]; rfl
    rw [e_Rd_readTest_7, if_pos (by omega), yck (aT_43 s), hw]
  · show rn (d + 5) 64 [iR (some 43), iI br] (st h I J) = _
    rw [r_Rd_readTest, e_Rd_readTest, yck (aT_43 s)]
    rfl
end P54
