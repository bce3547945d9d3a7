/-! Stretches, loops, methods: the small machine's answers are the real one's -/
def am_lp (call : Nat → List AV → AH → Option RR) (rt : Nat) (cd : AC) (cut : List (Nat × List Nat)) : Nat → AK
  | 0, _, _, _, _ => none
  | n + 1, pc, ls, st, h => am_seg call rt cd cut (am_lp call rt cd cut n) 2000 (am_drop cd pc) ls st h
def am_run (PG : Nat → AC) (CT : Nat → List (Nat × List Nat)) : Nat → Nat → List AV → AH → Option RR
  | 0, _, _, _ => none
  | d + 1, y, as, h => cond (Nat.ble (am_ent as).length (mMl y)) (am_lp (am_run PG CT d) (am_rt y) (PG y) (CT y) 1000000 0 (am_ent as ++ List.replicate (mMl y - (am_ent as).length) none) [] h) none
/-- what is checked of a method's rows -/
def okP (y : Nat) (cd : AC) : Bool := cd.all (okE y) && am_wf cd && Nat.ble (am_rt y) 4
section P13
variable {l : Launch} {G : EG} {d y pc pc' : Nat} {ls ls' : AL} {st st' : List AV} {h h' : AH} {q : RR}
theorem kill_at : ∀ (ks : List Nat) (ls : AL) (i : Nat) (v : AV), (am_kill ks ls)[i]? = some (some v) → ls[i]? = some (some v)
  | [], _, _, _, e => e
  | k :: t, ls, i, v, e => by
    have e1 := kill_at t (ls.set k none) i v e
    by_cases hk : k = i
    · subst hk
      rw [List.getElem?_set] at e1
      rw [if_pos rfl] at e1
      by_cases hz : k < ls.length
      · rw [if_pos hz] at e1; cases e1
      · rw [if_neg hz] at e1; cases e1
    · rwa [List.getElem?_set_ne hk] at e1
theorem kill_len : ∀ (ks : List Nat) (ls : AL), (am_kill ks ls).length = ls.length
  | [], _ => rfl
  | k :: t, ls => by
    have := kill_len t (ls.set k none)
    rw [List.length_set] at this
    exact this
theorem suf_drop : ∀ (cd : AC) (k : Nat), ∃ a, cd = a ++ am_drop cd k
  | [], _ => ⟨[], rfl⟩
  | e :: t, k => by
    unfold am_drop
    cases hb : Nat.beq e.1 k with
    | true => exact ⟨[], rfl⟩
    | false =>
      obtain ⟨a, ha⟩ := suf_drop t k
      exact ⟨e :: a, by rw [List.cons_append]; exact congrArg (e :: ·) ha⟩
theorem wf_next : ∀ (a : AC) (e x : AE) (t : AC), am_wf (a ++ e :: x :: t) = true → x.1 = e.1 + e.2.2.1
  | [], e, x, t, h => by
    unfold am_wf at h
    rw [List.nil_append] at h
    dsimp only at h
    rw [Bool.and_eq_true] at h
    exact Nat.eq_of_beq_eq_true h.1
  | [z], e, x, t, h => by
    have h : (Nat.beq e.1 (z.1 + z.2.2.1) && am_wf (e :: x :: t)) = true := h
    rw [Bool.and_eq_true] at h
    exact wf_next [] e x t h.2
  | z :: w :: a, e, x, t, h => by
    have h : (Nat.beq w.1 (z.1 + z.2.2.1) && am_wf (w :: a ++ e :: x :: t)) = true := h
    rw [Bool.and_eq_true] at h
    exact wf_next (w :: a) e x t h.2
theorem seg_ok {call : Nat → List AV → AH → Option RR} {d' : Nat} {cd : AC} {cut : List (Nat × List Nat)} {K : AK} (hE : ∀ e ∈ cd, okE y e = true) (hwf : am_wf cd = true) (hdd : d' + 1 ≤ d) (h6 : 6 ≤ d)
    (hcall : ∀ k as h1 q1, call k as h1 = some q1 → mOk k ∧ am_rt k ≤ 4 ∧ Sd l G d' k as h1 q1)
    (hK : ∀ pc ls st h, K pc ls st h = some q → V l G d y pc ls st h q) :
    ∀ (n : Nat) (rest : AC) (ls : AL) (st : List AV) (h : AH), (∃ a, cd = a ++ rest) → am_seg call (am_rt y) cd cut K n rest ls st h = some q → ∃ x tl, rest = x :: tl ∧ V l G d y x.1 ls st h q := by
  intro n
  induction n with
  | zero => intro rest ls st h _ hs; cases hs
  | succ n ih =>
    intro rest ls st h hsuf hs
    cases rest with
    | nil => cases hs
    | cons e t =>
      refine ⟨e, t, rfl, ?_⟩
      obtain ⟨a, ha⟩ := hsuf
      have hs : am_step call (am_rt y) cd e t ls st h (am_go cut K (am_seg call (am_rt y) cd cut K n)) = some q := hs
      have hst : ∀ rest', (∃ a, cd = a ++ rest') → ∀ ls' st' h', am_go cut K (am_seg call (am_rt y) cd cut K n) rest' ls' st' h' = some q → ∃ x tl, rest' = x :: tl ∧ V l G d y x.1 ls' st' h' q := by
        intro rest' hsf ls' st' h' hg
        unfold am_go at hg
        cases rest' with
        | nil => cases hg
        | cons x tl =>
          dsimp only at hg
          split at hg
          · exact ⟨x, tl, rfl, (hK _ _ _ _ hg).forget (kill_len _ _) (fun i v => kill_at _ _ i v)⟩
          · exact ih _ _ _ _ hsf hg
      refine step_ok (hE e (by rw [ha]; simp)) hdd h6 hcall ?_ ?_ hs
      · intro x tl htl
        subst htl
        rw [ha] at hwf
        exact wf_next a e x tl hwf
      · intro rest' ls' st' h' hsf hg
        refine hst rest' ?_ ls' st' h' hg
        rcases hsf with rfl | ⟨k, rfl⟩
        · exact ⟨a ++ [e], by rw [ha, List.append_assoc]; rfl⟩
        · exact suf_drop cd k
theorem lp_ok {call : Nat → List AV → AH → Option RR} {d' : Nat} {cd : AC} {cut : List (Nat × List Nat)} (hE : ∀ e ∈ cd, okE y e = true) (hwf : am_wf cd = true) (hdd : d' + 1 ≤ d) (h6 : 6 ≤ d)
    (hcall : ∀ k as h1 q1, call k as h1 = some q1 → mOk k ∧ am_rt k ≤ 4 ∧ Sd l G d' k as h1 q1) :
    ∀ (n : Nat) (pc : Nat) (ls : AL) (st : List AV) (h : AH), am_lp call (am_rt y) cd cut n pc ls st h = some q → V l G d y pc ls st h q := by
  intro n
  induction n with
  | zero => intro pc ls st h hs; cases hs
  | succ n ih =>
    intro pc ls st h hs
    obtain ⟨x, tl, e1, e2⟩ := seg_ok hE hwf hdd h6 hcall ih 2000 (am_drop cd pc) ls st h (suf_drop cd pc) hs
    rw [drop_hd _ _ _ _ e1] at e2
    exact e2
theorem run_ok {PG : Nat → AC} {CT : Nat → List (Nat × List Nat)} (hP : ∀ y, PG y ≠ [] → okP y (PG y) = true ∧ mOk y) :
    ∀ (d y : Nat) (as : List AV) (h : AH) (q : RR), am_run PG CT d y as h = some q → mOk y ∧ am_rt y ≤ 4 ∧ Sd l G (d + 5) y as h q := by
  intro d
  induction d with
  | zero => intro y as h q hs; cases hs
  | succ d ih =>
    intro y as h q hs
    unfold am_run at hs
    obtain ⟨hlen, hs⟩ := cond_sp hs
    have hne : PG y ≠ [] := fun z => by
      rw [z] at hs
      cases hs
    obtain ⟨hok, hmok⟩ := hP y hne
    unfold okP at hok
    rw [Bool.and_eq_true, Bool.and_eq_true] at hok
    have hV := lp_ok (l := l) (G := G) (d := d + 1 + 5) (d' := d + 5) (List.all_eq_true.mp hok.1.1) hok.1.2 (by omega) (by omega) (fun k as h1 q1 hk => ih k as h1 q1 hk) _ _ _ _ _ hs
    exact ⟨hmok, Nat.le_of_ble_eq_true hok.2, Sd.ofV (mc_cls hmok).2.1 (mc_cls hmok).1 (Nat.le_of_ble_eq_true hlen) hV⟩
end P13
