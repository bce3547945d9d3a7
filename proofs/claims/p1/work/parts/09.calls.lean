/-! Ends of methods, calls, copies -/
section P9
variable {l : Launch} {G : EG} {d y pc pc' : Nat} {ls ls' : AL} {st st' : List AV} {h h' : AH} {q : RR}
theorem rt_1 (e : am_rt y = 1) : mRt y = some .int := by
  unfold am_rt at e
  split at e <;> first | assumption | cases e
theorem rt_4 (e : am_rt y = 4) : mRt y = some .boolean := by
  unfold am_rt at e
  split at e <;> first | assumption | cases e
theorem rt_2 (e : am_rt y = 2) : mRt y = some .long := by
  unfold am_rt at e
  split at e <;> first | assumption | cases e
theorem rt_0 (e : am_rt y = 0) : mRt y = none := by
  unfold am_rt at e
  split at e <;> first | assumption | cases e
theorem rt_3 (e : am_rt y = 3) : ∃ n, mRt y = some (.object n) := by
  unfold am_rt at e
  split at e <;> first | exact ⟨_, by assumption⟩ | cases e
theorem s_iret {x : Int32} (hd : decode (mBy y) pc = .ok (.ireturn, 1)) (hr : am_rt y = 1 ∨ (am_rt y = 4 ∧ (x = 0 ∨ x = 1))) : V l G d y pc ls [vI x] h (rI x, h) := by
  refine ⟨Ext.rf h, ?_⟩
  intro p e R s m args below meth c H locs cells slots lsM mc ms hC h1 h2 h3 h4 hz h5 h6 h7
  have e1 : mc = cells := by have h3 : cells + (hpn h - hpn h) = mc := h3; omega
  have e2 : ms = slots := by have h4 : slots + (hps h - hps h) = ms := h4; omega
  subst e1
  subst e2
  have hlocks := hC.2.1.2.1
  rcases hr with hr | ⟨hr, hx⟩
  · exact W.iret hC.1.1 hC.1.2.1 (hC.2.1.1.trans (rt_1 hr)) (fun t ht hW => ⟨by unfold rOut; rw [hr]; rfl, by rw [ht]; exact h5, hC.2.2.2.2.1.warm hW⟩) (fun q hq => h6.2.2 q hq) hd hlocks
  · exact W.zret (ty := .boolean) hC.1.1 hC.1.2.1 (hC.2.1.1.trans (rt_4 hr)) (by rcases hx with rfl | rfl <;> rfl) (fun t ht hW => ⟨by unfold rOut; rw [hr]; rfl, by rw [ht]; exact h5, hC.2.2.2.2.1.warm hW⟩) (fun q hq => h6.2.2 q hq) hd hlocks
theorem s_lret {x : Int64} (hd : decode (mBy y) pc = .ok (.lreturn, 1)) (hr : am_rt y = 2) : V l G d y pc ls [vJ x] h (rJ x, h) := by
  refine ⟨Ext.rf h, ?_⟩
  intro p e R s m args below meth c H locs cells slots lsM mc ms hC h1 h2 h3 h4 hz h5 h6 h7
  have e1 : mc = cells := by have h3 : cells + (hpn h - hpn h) = mc := h3; omega
  have e2 : ms = slots := by have h4 : slots + (hps h - hps h) = ms := h4; omega
  subst e1
  subst e2
  have hlocks := hC.2.1.2.1
  exact W.lret hC.1.1 hC.1.2.1 (hC.2.1.1.trans (rt_2 hr)) (fun t ht hW => ⟨by unfold rOut; rw [hr]; rfl, by rw [ht]; exact h5, hC.2.2.2.2.1.warm hW⟩) (fun q hq => h6.2.2 q hq) hd hlocks
theorem s_aret {x : Option Nat} (hd : decode (mBy y) pc = .ok (.areturn, 1)) (hr : am_rt y = 3) : V l G d y pc ls [vR x] h (rR x, h) := by
  refine ⟨Ext.rf h, ?_⟩
  intro p e R s m args below meth c H locs cells slots lsM mc ms hC h1 h2 h3 h4 hz h5 h6 h7
  have e1 : mc = cells := by have h3 : cells + (hpn h - hpn h) = mc := h3; omega
  have e2 : ms = slots := by have h4 : slots + (hps h - hps h) = ms := h4; omega
  subst e1
  subst e2
  have hlocks := hC.2.1.2.1
  obtain ⟨n, hn⟩ := rt_3 hr
  exact W.aret hC.1.1 hC.1.2.1 (hC.2.1.1.trans hn) (Or.inl ⟨n, rfl⟩) (by cases x with
    | none => exact Or.inl rfl
    | some a => exact Or.inr ⟨_, rfl⟩) (fun t ht hW => ⟨by unfold rOut; rw [hr]; rfl, by rw [ht]; exact h5, hC.2.2.2.2.1.warm hW⟩) (fun q hq => h6.2.2 q hq) hd hlocks
theorem s_vret (hd : decode (mBy y) pc = .ok (.return_, 1)) (hr : am_rt y = 0) : V l G d y pc ls [] h (r0, h) := by
  refine ⟨Ext.rf h, ?_⟩
  intro p e R s m args below meth c H locs cells slots lsM mc ms hC h1 h2 h3 h4 hz h5 h6 h7
  have e1 : mc = cells := by have h3 : cells + (hpn h - hpn h) = mc := h3; omega
  have e2 : ms = slots := by have h4 : slots + (hps h - hps h) = ms := h4; omega
  subst e1
  subst e2
  have hlocks := hC.2.1.2.1
  exact W.vret hC.1.1 hC.1.2.1 (hC.2.1.1.trans (rt_0 hr)) (fun t ht hW => ⟨by unfold rOut; rw [hr]; rfl, by rw [ht]; exact h5, hC.2.2.2.2.1.warm hW⟩) (fun q hq => h6.2.2 q hq) hd hlocks
/-- a number's jump out of a table -/
theorem s_tab {dflt lo hi : Int} {offs : Array Int} {len : Nat} {x : Int32} (hd : decode (mBy y) pc = .ok (.tableswitch dflt lo hi offs, len)) (hsz : lo + (offs.size : Int) = hi + 1) (hpos : ∀ o ∈ dflt :: offs.toList, 0 ≤ (pc : Int) + o) {F : Int → Option RR} {r : RR} (hF : ∀ o, F o = some r → V l G d y (am_tgt pc o) ls st h r) (hx : am_tab x F dflt lo offs.toList = some r) : V l G d y pc ls (vI x :: st) h r := by
  have key : ∀ (t : List Int) (i : Int), am_tab x F dflt i t = some r → (((x.toInt < i ∨ i + (t.length : Int) ≤ x.toInt) ∧ F dflt = some r) ∨ ∃ (k : Nat) (o : Int), x.toInt = i + k ∧ t[k]? = some o ∧ F o = some r) := by
    intro t
    induction t with
    | nil =>
      intro i hi
      refine Or.inl ⟨?_, hi⟩
      simp
      omega
    | cons o t ih =>
      intro i hi
      unfold am_tab at hi
      by_cases hxi : x.toInt = i
      · rw [if_pos hxi] at hi
        exact Or.inr ⟨0, o, by omega, rfl, hi⟩
      · rw [if_neg hxi] at hi
        rcases ih (i + 1) hi with ⟨z1, z2⟩ | ⟨k, o', z1, z2, z3⟩
        · refine Or.inl ⟨?_, z2⟩
          simp only [List.length_cons]
          omega
        · exact Or.inr ⟨k + 1, o', by omega, by rw [List.getElem?_cons_succ]; exact z2, z3⟩
  rcases key _ _ hx with ⟨z1, z2⟩ | ⟨k, o, z1, z2, z3⟩
  · refine (hF _ z2).pure fun p e R s m args below meth c H locs cells slots lsM Q hC hw hS hl kk => ?_
    refine lv_tableOut hC.1.1 hC.1.2.1 hd ?_ (am_tg (hpos _ List.mem_cons_self)) (kk lsM hl)
    rw [Array.length_toList] at z1
    omega
  · refine (hF _ z3).pure fun p e R s m args below meth c H locs cells slots lsM Q hC hw hS hl kk => ?_
    have hk : k < offs.size := by
      have := (List.getElem?_eq_some_iff.mp z2).1
      rwa [Array.length_toList] at this
    refine lv_tableIn hC.1.1 hC.1.2.1 hd (by omega) (by omega) (off := o) ?_ (am_tg (hpos _ (List.mem_cons_of_mem _ (List.mem_of_getElem? z2)))) (kk lsM hl)
    have e : (x.toInt - lo).toNat = k := by omega
    rw [e, ← Array.getElem?_toList]
    exact z2
/-- a method, as the small machine has it: from such arguments and such a heap it answers so; d frames -/
def Sd (l : Launch) (G : EG) (d y : Nat) (as : List AV) (h : AH) (q : RR) : Prop := Ext h q.2 ∧ Met l (mNm y) (.code (mNm y) (mBy y) (mMl y) (mRt y) :: gdW) { frames := d, cells := hpn q.2 - hpn h, slots := hps q.2 - hps h, locals := 64 * d } (va_Pc (as.map (con G)) (fun U => wd G h U.heap ∧ Kw G U)) (am_Q G y q) (hpn q.2 - hpn h) (hps q.2 - hps h) (nwq G)
def am_ent : List AV → AL
  | [] => []
  | .inl x :: t => some (vI x) :: am_ent t
  | .inr (.inl x) :: t => some (vJ x) :: none :: am_ent t
  | .inr (.inr x) :: t => some (vR x) :: am_ent t
theorem ent_len : ∀ as : List AV, (lg_sl (as.map (con G))).length = (am_ent as).length
  | [] => rfl
  | .inl x :: t => by
    have := ent_len t
    simp only [lg_sl, List.map_cons, List.flatMap_cons, List.length_append, am_ent, List.length_cons] at this ⊢
    rw [this]
    simp [con, Value.category]
    omega
  | .inr (.inl x) :: t => by
    have := ent_len t
    simp only [lg_sl, List.map_cons, List.flatMap_cons, List.length_append, am_ent, List.length_cons] at this ⊢
    rw [this]
    simp [con, Value.category]
    omega
  | .inr (.inr x) :: t => by
    have := ent_len t
    simp only [lg_sl, List.map_cons, List.flatMap_cons, List.length_append, am_ent, List.length_cons] at this ⊢
    rw [this]
    cases x <;> simp [con, Value.category] <;> omega
theorem ent_at : ∀ (as : List AV) (n i : Nat) (v : AV), (am_ent as)[i]? = some (some v) → (n + i, con G v) ∈ lv_args n (as.map (con G))
  | [], n, i, v, hi => by simp [am_ent] at hi
  | .inl x :: t, n, i, v, hi => by
    cases i with
    | zero => simp [am_ent] at hi; subst hi; exact List.mem_cons_self
    | succ i =>
      have hi : (am_ent t)[i]? = some (some v) := hi
      have := ent_at t (n + 1) i v hi
      refine List.mem_cons_of_mem _ ?_
      show (n + (i + 1), con G v) ∈ lv_args (if (con G (vI x)).category = 2 then n + 2 else n + 1) _
      rw [if_neg (by simp [con, Value.category]), show n + (i + 1) = n + 1 + i by omega]
      exact this
  | .inr (.inr x) :: t, n, i, v, hi => by
    cases i with
    | zero => simp [am_ent] at hi; subst hi; exact List.mem_cons_self
    | succ i =>
      have hi : (am_ent t)[i]? = some (some v) := hi
      have := ent_at t (n + 1) i v hi
      refine List.mem_cons_of_mem _ ?_
      show (n + (i + 1), con G v) ∈ lv_args (if (con G (vR x)).category = 2 then n + 2 else n + 1) _
      rw [if_neg (by rw [con_c1]; decide), show n + (i + 1) = n + 1 + i by omega]
      exact this
  | .inr (.inl x) :: t, n, i, v, hi => by
    cases i with
    | zero => simp [am_ent] at hi; subst hi; exact List.mem_cons_self
    | succ i =>
      cases i with
      | zero => simp [am_ent] at hi
      | succ i =>
        have hi : (am_ent t)[i]? = some (some v) := hi
        have := ent_at t (n + 2) i v hi
        refine List.mem_cons_of_mem _ ?_
        show (n + (i + 1 + 1), con G v) ∈ lv_args (if (con G (vJ x)).category = 2 then n + 2 else n + 1) _
        rw [if_pos (show (con G (vJ x)).category = 2 from rfl), show n + (i + 1 + 1) = n + 2 + i by omega]
        exact this
theorem Sd.ofV {as : List AV} (hy : plainName (mNm y).cls = true) (hc : (mNm y).cls = am_own (mOc y)) (hlen : (am_ent as).length ≤ mMl y) (hV : V l G d y 0 (am_ent as ++ List.replicate (mMl y - (am_ent as).length) none) [] h q) : Sd l G d y as h q := by
  refine ⟨hV.1, ?_⟩
  refine Met.ofW (cc := mBy y) (maxL := mMl y) (ret := mRt y) hy rfl ?_
  intro p e s m args below meth c s₁ B hml hv
  obtain ⟨rfl, hw, hK⟩ := hv
  have hts := atoms_spec (ws := .code (mNm y) (mBy y) (mMl y) (mRt y) :: gdW) B.pre
  have hown : s.vm.findClass (mNm y).cls = some m.cls := findClass_of_methodNamed B.named
  have hl := lv_entry (as.map (con G)) (n := mMl y) (by rw [ent_len]; exact hlen)
  rw [lg_entry_eq]
  have hsz : gB G ≤ s.heap.size := by have := hw.2.1; omega
  refine hV.2 p e _ s m _ below meth c s.heap [] 0 0 _ _ _ ⟨⟨B.exec, B.bytes, hml⟩, ⟨B.returns, B.notSynchronized, (name_of_methodNamed B.named B.method).1⟩, by rw [← hc]; exact hown, fun w hw => hts w (List.mem_cons_of_mem _ hw), hK, ⟨hsz, hw.2.2.2.1⟩, Nat.le_refl _, Nat.le_refl _⟩ (Nat.le_refl _) (Nat.le_refl _) (Nat.zero_add _) (Nat.zero_add _) rfl hw va_S.rf ⟨hl.1, hl.2.1, ?_, ?_⟩
  · rw [List.length_append, List.length_replicate]; omega
  · intro i v hi
    have hi2 : (am_ent as)[i]? = some (some v) := by
      by_cases hlt : i < (am_ent as).length
      · rwa [List.getElem?_append_left hlt] at hi
      · rw [List.getElem?_append_right (by omega)] at hi
        have := List.mem_of_getElem? hi
        rw [List.mem_replicate] at this
        cases this.2
    have := hl.2.2 _ (ent_at as 0 i v hi2)
    rwa [Nat.zero_add] at this
end P9
