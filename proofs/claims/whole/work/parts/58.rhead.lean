/-! The class's reader: RULES, ORDERS (by program, wip/whole/gen58.py) -/
abbrev Hed : Type := Sum Int (Nat × Nat × Int × Pls)
def aHd (k : Int) : Sum Int (Nat × Nat × Pls) → Hed
  | .inl q => .inl q
  | .inr (p, l, P) => .inr (p, l, k, P)
section P58a
variable (B : Nat → Int) (n : Nat)
def aRule (p l : Nat) : Hed :=
  if tkC B n p = 269 then aHd 4 (aSums B n 0 1002 1 0 (tkE B n p) l (fun _ => none))
  else if tkC B n p = 270 then aHd 5 (aSums B n 0 1002 1 0 (tkE B n p) l (fun _ => none))
  else if tkC B n p = 271 then .inr (tkE B n p, l, 6, fun _ => none)
  else .inl (tkF B n p)
def aOrder (p l : Nat) : Hed :=
  if tkC B n p = 272 then aHd 0 (aSums B n 1 276 2 0 (tkE B n p) l (fun _ => none))
  else if tkC B n p = 273 then aHd 1 (aSums B n 1 277 3 0 (tkE B n p) l (fun _ => none))
  else if tkC B n p = 274 then aHd 2 (aSums B n 1 277 2 0 (tkE B n p) l (fun _ => none))
  else if tkC B n p = 275 then .inr (tkE B n p, l, 3, fun _ => none)
  else .inl (tkF B n p)
def aTimes (p : Nat) : Sum Int (Nat × Int) :=
  if tkC B n p = 278 then (if tkC B n (tkE B n p) = 1000 ∧ 1 ≤ tkV B n (tkE B n p) ∧ tkV B n (tkE B n p) ≤ 20 then .inr (tkE B n (tkE B n p), tkV B n (tkE B n p)) else .inl (tkF B n (tkE B n p)))
  else .inr (p, 1)
end P58a
/-- what reading in the clause c leaves as it is -/
def KFr (I' I : Nat → Nat → Int) (c : Nat) : Prop := Fr I' I 43 50 ∧ I' 44 7 = I 44 7 ∧ (∀ a, a ≠ c → I' 47 a = I 47 a ∧ I' 48 a = I 48 a) ∧ ∀ a, (a < 4 * c ∨ 4 * c + 4 ≤ a) → I' 49 a = I 49 a ∧ I' 50 a = I 50 a
theorem CFr.k {I' I : Nat → Nat → Int} {c : Nat} (h : CFr I' I c) : KFr I' I c := ⟨h.1, h.2.1, fun a _ => ⟨by rw [h.2.2.1], by rw [h.2.2.2.1]⟩, h.2.2.2.2⟩
theorem KFr.tr {A B C : Nat → Nat → Int} {c : Nat} (h1 : KFr A B c) (h2 : KFr B C c) : KFr A C c := ⟨h2.1.tr h1.1, h1.2.1.trans h2.2.1, fun a ha => ⟨(h1.2.2.1 a ha).1.trans (h2.2.2.1 a ha).1, (h1.2.2.1 a ha).2.trans (h2.2.2.1 a ha).2⟩, fun a ha => ⟨(h1.2.2.2 a ha).1.trans (h2.2.2.2 a ha).1, (h1.2.2.2 a ha).2.trans (h2.2.2.2 a ha).2⟩⟩
theorem KFr.kind (I : Nat → Nat → Int) (c : Nat) (x : Int) : KFr (up I 47 c x) I c := ⟨fun b hb => up_na (by omega), by rw [up_na (by omega)], fun a ha => ⟨up_ni ha, by rw [up_na (by omega)]⟩, fun a _ => ⟨by rw [up_na (by omega)], by rw [up_na (by omega)]⟩⟩
theorem KFr.times (I : Nat → Nat → Int) (c : Nat) (x : Int) : KFr (up I 48 c x) I c := ⟨fun b hb => up_na (by omega), by rw [up_na (by omega)], fun a ha => ⟨by rw [up_na (by omega)], up_ni ha⟩, fun a _ => ⟨by rw [up_na (by omega)], by rw [up_na (by omega)]⟩⟩
/-- a good end of a clause's head -/
def HdG (B : Nat → Int) (n : Nat) (ord : Int) (nw : Nat) (I' I : Nat → Nat → Int) (c p l m : Nat) (x : Hed) : Prop := (∀ q, x = .inl q → RdNo B n ord I' q) ∧ ∀ p' l' k P, x = .inr (p', l', k, P) → ∃ m', RdOk B n ord I' p' l' m' ∧ (l ≤ l' ∧ l' ≤ 50) ∧ p < p' ∧ m' + p ≤ p' + m ∧ m ≤ m' ∧ SmSt I' I m ∧ (∀ q, q < 4 → plOk nw I' (4 * c + q) m' (P q)) ∧ I' 47 c = k ∧ I' 48 = I 48
section P58
variable {d n nw : Nat} {h : IH} {J I : Nat → Nat → Int} {B : Nat → Int} {ord : Int} {p l m c : Nat}
theorem HdG.bad {I' : Nat → Nat → Int} {q : Int} (r : RdNo B n ord I' q) : HdG B n ord nw I' I c p l m (.inl q) := ⟨fun q' e => (by cases e; exact r), fun p' l' k g e => (by cases e)⟩
theorem hd_sums (s : ShT h) (rb : hR h 43 2 = some 42) (hn : n ≤ 400) (hB : ∀ i, 0 ≤ B i ∧ B i ≤ 255) (z : RdPr h J B n ord nw (fun _ => True) (fun g => rn (d + 3) 67 [iR (some 43), iI 0] g) (aSum B n ord 8)) (hc : c < 12) {bt kd : Int} {cnt : Nat} (hcnt : cnt ≤ 3) (hb1 : cnt ≤ 1 ∨ (bt ≠ 1002 ∧ bt ≠ 1001)) (r : RdOk B n ord I p l m) (hl : l ≤ 50) (hm : m ≤ p) (ht : tkC B n p ≠ 1001) (hz : ∀ q, q < 4 → I 49 (4 * c + q) = 0 ∧ I 50 (4 * c + q) = 0) : ∃ I', KFr I' I c ∧ rn (d + 4) 62 [iR (some 43), iI (c : Int), iI (cnt : Int), iI bt] (st h (up (tkI I B n (tkE B n p)) 47 c kd) J) = some (o0, st h I' J) ∧ HdG B n ord nw I' I c p l m (aHd kd (aSums B n ord bt cnt 0 (tkE B n p) l (fun _ => none))) := by
  have hp := tkE_lt r.2.2.2.1.1 ht
  have r1 : RdOk B n ord (up (tkI I B n (tkE B n p)) 47 c kd) (tkE B n p) l m := r.next.cg (fun b hb => up_na (by omega))
  have q43 : ∀ b, b ≠ 43 → b ≠ 47 → up (tkI I B n (tkE B n p)) 47 c kd b = I b := fun b h1 h2 => by rw [up_na h2, tkI_na h1]
  obtain ⟨I', a1, a2, a3⟩ := l_sums (d := d) (J := J) s rb hn hB z hc hcnt hb1 cnt 0 999999 (tkE B n p) l m _ (up (tkI I B n (tkE B n p)) 47 c kd) (fun _ => none) (tkE B n p) l m (by omega) (by omega) r1 hl (by omega) (by omega) (Nat.le_refl _) (Nat.le_refl _) (Nat.le_refl _) (SmSt.rf _ m) (CFr.rf _ c) (fun q hq => by
    show up (tkI I B n (tkE B n p)) 47 c kd 49 (4 * c + q) = 0 ∧ up (tkI I B n (tkE B n p)) 47 c kd 50 (4 * c + q) = 0
    rw [q43 49 (by omega) (by omega), q43 50 (by omega) (by omega)]
    exact hz q hq)
  have k0 : KFr (up (tkI I B n (tkE B n p)) 47 c kd) I c := (KFr.kind _ c kd).tr ((tkI_fr I B n (tkE B n p)).c c).k
  refine ⟨I', a1.k.tr k0, ?_, ?_⟩
  · rw [r_Rd_readSums, e_Rd_readSums]
    exact a2
  · cases e : aSums B n ord bt cnt 0 (tkE B n p) l (fun _ => none) with
    | inl q => exact HdG.bad (a3.1 q e)
    | inr x =>
      obtain ⟨p', l', P⟩ := x
      obtain ⟨m', b1, b2, b3, b4, b5, b6, b7⟩ := a3.2 p' l' P e
      refine ⟨fun q' e => (by cases e), fun p2 l2 k2 P2 e2 => ?_⟩
      cases e2
      refine ⟨m', b1, b2, by omega, by omega, b5, fun i hi => ⟨by rw [(b6 i hi).1, q43 45 (by omega) (by omega)], by rw [(b6 i hi).2, q43 46 (by omega) (by omega)]⟩, b7, ?_, ?_⟩
      · rw [a1.2.2.1, up_eq]
      · rw [a1.2.2.2.1, q43 48 (by omega) (by omega)]
theorem hd_none (s : ShT h) {kd : Int} (r : RdOk B n ord I p l m) (hl : l ≤ 50) (ht : tkC B n p ≠ 1001) (hz : ∀ q, q < 4 → I 49 (4 * c + q) = 0 ∧ I 50 (4 * c + q) = 0) : KFr (up (tkI I B n (tkE B n p)) 47 c kd) I c ∧ HdG B n ord nw (up (tkI I B n (tkE B n p)) 47 c kd) I c p l m (.inr (tkE B n p, l, kd, fun _ => none)) := by
  have hp := tkE_lt r.2.2.2.1.1 ht
  have q43 : ∀ b, b ≠ 43 → b ≠ 47 → up (tkI I B n (tkE B n p)) 47 c kd b = I b := fun b h1 h2 => by rw [up_na h2, tkI_na h1]
  refine ⟨(KFr.kind _ c kd).tr ((tkI_fr I B n (tkE B n p)).c c).k, fun q' e => (by cases e), fun p2 l2 k2 P2 e2 => ?_⟩
  cases e2
  refine ⟨m, r.next.cg (fun b hb => up_na (by omega)), ⟨Nat.le_refl _, hl⟩, hp.1, by omega, Nat.le_refl _, fun i hi => ⟨by rw [q43 45 (by omega) (by omega)], by rw [q43 46 (by omega) (by omega)]⟩, fun q hq => ?_, by rw [up_eq], q43 48 (by omega) (by omega)⟩
  show up (tkI I B n (tkE B n p)) 47 c kd 49 (4 * c + q) = 0 ∧ up (tkI I B n (tkE B n p)) 47 c kd 50 (4 * c + q) = 0
  rw [q43 49 (by omega) (by omega), q43 50 (by omega) (by omega)]
  exact hz q hq
theorem s_rule (s : ShT h) (rb : hR h 43 2 = some 42) (hn : n ≤ 400) (hB : ∀ i, 0 ≤ B i ∧ B i ≤ 255) (z : RdPr h J B n 0 nw (fun _ => True) (fun g => rn (d + 3) 67 [iR (some 43), iI 0] g) (aSum B n 0 8)) (hc : c < 12) (r : RdOk B n 0 I p l m) (hl : l ≤ 50) (hm : m ≤ p) (hz : ∀ q, q < 4 → I 49 (4 * c + q) = 0 ∧ I 50 (4 * c + q) = 0) : ∃ I', KFr I' I c ∧ rn (d + 5) 60 [iR (some 43), iI (c : Int)] (st h I J) = some (o0, st h I' J) ∧ HdG B n 0 nw I' I c p l m (aRule B n p l) := by
  have c5 := r.2.1.2.1
  rw [r_Rd_readRule, e_Rd_readRule, yck (aT_43 s)]
  unfold aRule
  by_cases c1 : tkC B n p = 269
  · obtain ⟨I', a1, a2, a3⟩ := hd_sums (d := d) (J := J) (c := c) s rb hn hB z hc (bt := 1002) (kd := 4) (cnt := 1) (by omega) (Or.inl (by omega)) r hl hm (by rw [c1]; decide) hz
    have a2 : rn (d + 4) 62 [iR (some 43), iI (c : Int), iI 1, iI 1002] (st h (up (tkI I B n (tkE B n p)) 47 c 4) J) = some (o0, st h I' J) := a2
    rw [if_pos c1, s_takeY s rb hn hB r c1, kI_o, if_neg (by decide), ygR (aT_43 s) (aR_43_0 s), xB_s, ygR (aT_44 s) (aR_44_2 s), xB_s, ysN (aT_47 s) (by omega) (aL_47 s) hc, yck (aT_43 s), a2, kV_o]
    exact ⟨I', a1, rfl, a3⟩
  · rw [if_neg c1, s_takeX s (by rw [c5]; exact c1), kI_o, if_pos rfl, yck (aT_43 s)]
    by_cases c2 : tkC B n p = 270
    · obtain ⟨I', a1, a2, a3⟩ := hd_sums (d := d) (J := J) (c := c) s rb hn hB z hc (bt := 1002) (kd := 5) (cnt := 1) (by omega) (Or.inl (by omega)) r hl hm (by rw [c2]; decide) hz
      have a2 : rn (d + 4) 62 [iR (some 43), iI (c : Int), iI 1, iI 1002] (st h (up (tkI I B n (tkE B n p)) 47 c 5) J) = some (o0, st h I' J) := a2
      rw [if_pos c2, s_takeY s rb hn hB r c2, kI_o, if_neg (by decide), ygR (aT_43 s) (aR_43_0 s), xB_s, ygR (aT_44 s) (aR_44_2 s), xB_s, ysN (aT_47 s) (by omega) (aL_47 s) hc, yck (aT_43 s), a2, kV_o]
      exact ⟨I', a1, rfl, a3⟩
    · rw [if_neg c2, s_takeX s (by rw [c5]; exact c2), kI_o, if_pos rfl, yck (aT_43 s)]
      by_cases c3 : tkC B n p = 271
      · obtain ⟨a1, a3⟩ := hd_none (nw := nw) (c := c) (kd := 6) s r hl (by rw [c3]; decide) hz
        rw [if_pos c3, s_takeY s rb hn hB r c3, kI_o, if_neg (by decide), ygR (aT_43 s) (aR_43_0 s), xB_s, ygR (aT_44 s) (aR_44_2 s), xB_s, ysN (aT_47 s) (by omega) (aL_47 s) hc]
        exact ⟨_, a1, rfl, a3⟩
      · rw [if_neg c3, s_takeX s (by rw [c5]; exact c3), kI_o, if_pos rfl, yck (aT_43 s), s_failO s r, kV_o]
        exact ⟨_, ((fail_fr _ _ _).c c).k, rfl, HdG.bad (failO r)⟩
theorem s_ruleN (s : ShT h) {q : Int} (r : RdNo B n ord I q) (x : Int) : rn (d + 5) 60 [iR (some 43), iI x] (st h I J) = some (o0, st h I J) := by
  have c5 := r.2.1.2.2
  rw [r_Rd_readRule, e_Rd_readRule, yck (aT_43 s), s_takeX s (by rw [c5]; decide), kI_o, if_pos rfl, yck (aT_43 s), s_takeX s (by rw [c5]; decide), kI_o, if_pos rfl, yck (aT_43 s), s_takeX s (by rw [c5]; decide), kI_o, if_pos rfl, yck (aT_43 s), s_failN s r, kV_o]
theorem s_order (s : ShT h) (rb : hR h 43 2 = some 42) (hn : n ≤ 400) (hB : ∀ i, 0 ≤ B i ∧ B i ≤ 255) (z : RdPr h J B n 1 nw (fun _ => True) (fun g => rn (d + 3) 67 [iR (some 43), iI 0] g) (aSum B n 1 8)) (hc : c < 12) (r : RdOk B n 1 I p l m) (hl : l ≤ 50) (hm : m ≤ p) (hz : ∀ q, q < 4 → I 49 (4 * c + q) = 0 ∧ I 50 (4 * c + q) = 0) : ∃ I', KFr I' I c ∧ rn (d + 5) 61 [iR (some 43), iI (c : Int)] (st h I J) = some (o0, st h I' J) ∧ HdG B n 1 nw I' I c p l m (aOrder B n p l) := by
  have c5 := r.2.1.2.1
  rw [r_Rd_readOrder, e_Rd_readOrder, yck (aT_43 s)]
  unfold aOrder
  by_cases c1 : tkC B n p = 272
  · obtain ⟨I', a1, a2, a3⟩ := hd_sums (d := d) (J := J) (c := c) s rb hn hB z hc (bt := 276) (kd := 0) (cnt := 2) (by omega) (Or.inr (by decide)) r hl hm (by rw [c1]; decide) hz
    have a2 : rn (d + 4) 62 [iR (some 43), iI (c : Int), iI 2, iI 276] (st h (up (tkI I B n (tkE B n p)) 47 c 0) J) = some (o0, st h I' J) := a2
    rw [if_pos c1, s_takeY s rb hn hB r c1, kI_o, if_neg (by decide), ygR (aT_43 s) (aR_43_0 s), xB_s, ygR (aT_44 s) (aR_44_2 s), xB_s, ysN (aT_47 s) (by omega) (aL_47 s) hc, yck (aT_43 s), a2, kV_o]
    exact ⟨I', a1, rfl, a3⟩
  · rw [if_neg c1, s_takeX s (by rw [c5]; exact c1), kI_o, if_pos rfl, yck (aT_43 s)]
    by_cases c2 : tkC B n p = 273
    · obtain ⟨I', a1, a2, a3⟩ := hd_sums (d := d) (J := J) (c := c) s rb hn hB z hc (bt := 277) (kd := 1) (cnt := 3) (by omega) (Or.inr (by decide)) r hl hm (by rw [c2]; decide) hz
      have a2 : rn (d + 4) 62 [iR (some 43), iI (c : Int), iI 3, iI 277] (st h (up (tkI I B n (tkE B n p)) 47 c 1) J) = some (o0, st h I' J) := a2
      rw [if_pos c2, s_takeY s rb hn hB r c2, kI_o, if_neg (by decide), ygR (aT_43 s) (aR_43_0 s), xB_s, ygR (aT_44 s) (aR_44_2 s), xB_s, ysN (aT_47 s) (by omega) (aL_47 s) hc, yck (aT_43 s), a2, kV_o]
      exact ⟨I', a1, rfl, a3⟩
    · rw [if_neg c2, s_takeX s (by rw [c5]; exact c2), kI_o, if_pos rfl, yck (aT_43 s)]
      by_cases c3 : tkC B n p = 274
      · obtain ⟨I', a1, a2, a3⟩ := hd_sums (d := d) (J := J) (c := c) s rb hn hB z hc (bt := 277) (kd := 2) (cnt := 2) (by omega) (Or.inr (by decide)) r hl hm (by rw [c3]; decide) hz
        have a2 : rn (d + 4) 62 [iR (some 43), iI (c : Int), iI 2, iI 277] (st h (up (tkI I B n (tkE B n p)) 47 c 2) J) = some (o0, st h I' J) := a2
        rw [if_pos c3, s_takeY s rb hn hB r c3, kI_o, if_neg (by decide), ygR (aT_43 s) (aR_43_0 s), xB_s, ygR (aT_44 s) (aR_44_2 s), xB_s, ysN (aT_47 s) (by omega) (aL_47 s) hc, yck (aT_43 s), a2, kV_o]
        exact ⟨I', a1, rfl, a3⟩
      · rw [if_neg c3, s_takeX s (by rw [c5]; exact c3), kI_o, if_pos rfl, yck (aT_43 s)]
        by_cases c4 : tkC B n p = 275
        · obtain ⟨a1, a3⟩ := hd_none (nw := nw) (c := c) (kd := 3) s r hl (by rw [c4]; decide) hz
          rw [if_pos c4, s_takeY s rb hn hB r c4, kI_o, if_neg (by decide), ygR (aT_43 s) (aR_43_0 s), xB_s, ygR (aT_44 s) (aR_44_2 s), xB_s, ysN (aT_47 s) (by omega) (aL_47 s) hc]
          exact ⟨_, a1, rfl, a3⟩
        · rw [if_neg c4, s_takeX s (by rw [c5]; exact c4), kI_o, if_pos rfl, e_Rd_readOrder_120, yck (aT_43 s), s_failO s r, kV_o]
          exact ⟨_, ((fail_fr _ _ _).c c).k, rfl, HdG.bad (failO r)⟩
theorem s_orderN (s : ShT h) {q : Int} (r : RdNo B n ord I q) (x : Int) : rn (d + 5) 61 [iR (some 43), iI x] (st h I J) = some (o0, st h I J) := by
  have c5 := r.2.1.2.2
  rw [r_Rd_readOrder, e_Rd_readOrder, yck (aT_43 s), s_takeX s (by rw [c5]; decide), kI_o, if_pos rfl, yck (aT_43 s), s_takeX s (by rw [c5]; decide), kI_o, if_pos rfl, yck (aT_43 s), s_takeX s (by rw [c5]; decide), kI_o, if_pos rfl, yck (aT_43 s), s_takeX s (by rw [c5]; decide), kI_o, if_pos rfl, e_Rd_readOrder_120, yck (aT_43 s), s_failN s r, kV_o]
/-- how often -/
theorem s_times (s : ShT h) (rb : hR h 43 2 = some 42) (hn : n ≤ 400) (hB : ∀ i, 0 ≤ B i ∧ B i ≤ 255) (hc : c < 12) (r : RdOk B n ord I p l m) (hm : m ≤ p) (h48 : I 48 c = 1) : ∃ I', KFr I' I c ∧ (∀ b, b ≠ 43 → b ≠ 48 → I' b = I b) ∧ rn (d + 4) 63 [iR (some 43), iI (c : Int)] (st h I J) = some (o0, st h I' J) ∧ (∀ q, aTimes B n p = .inl q → RdNo B n ord I' q) ∧ ∀ p' t, aTimes B n p = .inr (p', t) → RdOk B n ord I' p' l m ∧ p ≤ p' ∧ I' 48 c = t := by
  have c5 := r.2.1.2.1
  rw [r_Rd_readTimes, e_Rd_readTimes, yck (aT_43 s)]
  unfold aTimes
  by_cases c1 : tkC B n p = 278
  · have hp := tkE_lt r.2.2.2.1.1 (show tkC B n p ≠ 1001 by omega)
    have r1 := r.next
    rw [if_pos c1, s_takeY s rb hn hB r c1, kI_o, if_neg (by decide), yck (aT_43 s), s_isNumber s, kI_o, r1.2.1.2.1, r1.2.1.2.2.2.2]
    by_cases c2 : tkC B n (tkE B n p) = 1000 ∧ 1 ≤ tkV B n (tkE B n p) ∧ tkV B n (tkE B n p) ≤ 20
    · have hp2 := tkE_lt r1.2.2.2.1.1 (show tkC B n (tkE B n p) ≠ 1001 by omega)
      have r2 : RdOk B n ord (up (tkI I B n (tkE B n p)) 48 c (tkV B n (tkE B n p))) (tkE B n p) l m := r1.cg (fun b hb => up_na (by omega))
      rw [if_pos c2, if_neg (by decide), if_pos c2, ygR (aT_43 s) (aR_43_0 s), xB_s, ygR (aT_44 s) (aR_44_3 s), ygI (aT_43 s), r1.2.1.2.2.2.2, xB_s, ysN (aT_48 s) (by omega) (aL_48 s) hc, yck (aT_43 s), s_next s rb hn hB r2, kV_o]
      refine ⟨_, (((tkI_fr _ B n _).c c).k).tr ((KFr.times _ c _).tr ((tkI_fr I B n (tkE B n p)).c c).k), fun b h1 h2 => by rw [tkI_na h1, up_na h2, tkI_na h1], rfl, fun q e => (by cases e), fun p' t e => ?_⟩
      cases e
      exact ⟨r2.next, by omega, by rw [tkI_na (by omega), up_eq]⟩
    · rw [if_neg c2, if_pos rfl, if_neg c2, yck (aT_43 s), s_failO s r1, kV_o]
      refine ⟨_, (((fail_fr _ _ _).c c).k).tr ((tkI_fr I B n (tkE B n p)).c c).k, fun b h1 h2 => by rw [up_na h1, up_na h1, tkI_na h1], rfl, fun q e => (by cases e; exact failO r1), fun p' t e => (by cases e)⟩
  · rw [if_neg c1, s_takeX s (by rw [c5]; exact c1), kI_o, if_pos rfl]
    refine ⟨I, (CFr.rf I c).k, fun b _ _ => rfl, rfl, fun q e => (by cases e), fun p' t e => ?_⟩
    cases e
    exact ⟨r, Nat.le_refl _, h48⟩
theorem s_timesN (s : ShT h) {q : Int} (r : RdNo B n ord I q) (x : Int) : rn (d + 4) 63 [iR (some 43), iI x] (st h I J) = some (o0, st h I J) := by
  rw [r_Rd_readTimes, e_Rd_readTimes, yck (aT_43 s), s_takeX s (by rw [r.2.1.2.2]; decide), kI_o, if_pos rfl]
end P58

