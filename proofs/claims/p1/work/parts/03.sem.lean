/-! What the small machine's states mean over the real one. G: (slots and kinds' numbers, kinds of arrays, old addresses, the heap at the law's start, the small heap then) -/
abbrev EG : Type := va_G × (Nat → ClassId) × (Nat → Nat) × Heap × AH
def gD (G : EG) : va_G := G.1
def gC (G : EG) : Nat → ClassId := G.2.1
def gA (G : EG) : Nat → Nat := G.2.2.1
def gH (G : EG) : Heap := G.2.2.2.1
def g0 (G : EG) : AH := G.2.2.2.2
def gB (G : EG) : Nat := (gH G).size
def adr (G : EG) (k : Nat) : Nat := if k < 3 then gA G k else gB G + (k - 3)
def nwq (G : EG) : Nat → Prop := fun q => gB G ≤ q
def con (G : EG) : AV → Value
  | .inl x => .int x
  | .inr (.inl x) => .long x
  | .inr (.inr none) => .null
  | .inr (.inr (some k)) => .ref (adr G k)
theorem con_R (G : EG) (o : Option Nat) : con G (vR o) = va_rf (o.map (adr G)) := by cases o <;> rfl
def am_ft (ty : FieldType) : Nat := match ty with
  | .int => 1
  | .boolean => 2
  | .object _ => 3
  | .array _ => 3
  | _ => 0
def am_fv (G : EG) (h : AH) (a ci k : Nat) : Value := match am_ft (am_fty ci k) with
  | 1 => .int (hpI h a k)
  | 2 => .int (hpI h a k)
  | _ => con G (vR (hpR h a k))
def toE (G : EG) (h : AH) (a : Nat) : va_E := match hpT h a with
  | 0 => .inl (gC G 0, hpL h a, .inl (hpI h a))
  | 1 => .inl (gC G 1, hpL h a, .inr (.inl (hpJ h a)))
  | 2 => .inl (gC G 2, hpL h a, .inl (hpI h a))
  | 3 => .inl (gC G 3, hpL h a, .inl (hpI h a))
  | 4 => .inl (gC G 4, hpL h a, .inr (.inr (.inr (.inr (fun j => (hpR h a j).map (adr G))))))
  | 5 => .inl (gC G 5, hpL h a, .inr (.inr (.inr (.inr (fun j => (hpR h a j).map (adr G))))))
  | t => .inr (t - 10, (List.range (am_nf (t - 10))).map (am_fv G h a (t - 10)))
def tyL (G : EG) : List (ClassId × FieldType) := [(gC G 0, .int), (gC G 1, .long), (gC G 2, .byte), (gC G 3, .boolean), (gC G 4, .object "TownSundays$Text"), (gC G 5, .object "TownSundays$Land")]
/-- the world: its cells, and what was there before -/
def wd (G : EG) (h : AH) (H : Heap) : Prop := 3 ≤ hpn h ∧ H.size = gB G + (hpn h - 3) ∧ (∀ k, 3 ≤ k → k < hpn h → va_at (gD G) am_cl (adr G k, toE G h k) H) ∧ (∀ q : Nat, q < gB G → H[q]? = (gH G)[q]?) ∧ (∀ a, a < 3 → hpT h a = hpT (g0 G) a ∧ hpL h a = hpL (g0 G) a ∧ ∀ j, hpI h a j = hpI (g0 G) a j) ∧ (∀ a, hpn h ≤ a → hpT h a = 9)
def vaY (b L : Nat) (xs : Nat → Int32) (U : State) (H : Heap) : Prop := ∃ scr : Cell, H[b]? = some scr ∧ U.isArrayOf scr .int ∧ scr.vm ≠ .unknown ∧ (L ≤ scr.slots.size ∧ scr.slots.size.toInt32 = Int32.ofNat L) ∧ ∀ j : Nat, j < L → scr.slots[j]? = some (.int (xs j))
theorem vaY.kept {b L : Nat} {xs : Nat → Int32} {U : State} {H H1 : Heap} (h : vaY b L xs U H) (hq : H1[b]? = H[b]?) : vaY b L xs U H1 := by
  obtain ⟨scr, h1, h2⟩ := h
  exact ⟨scr, by rw [hq]; exact h1, h2⟩
theorem vaY.moved {b L : Nat} {xs : Nat → Int32} {u U : State} {H : Heap} (hvm : u.vm.Alike U.vm) (h : vaY b L xs u H) : vaY b L xs U H := by
  obtain ⟨scr, h1, h2, h3⟩ := h
  exact ⟨scr, h1, State.isArrayOf_alike hvm h2, h3⟩
def Ks (G : EG) (U : State) : Prop := vk_R "TownSundays$Reader" 78 am_wt (gA G 2) U ∧ vk_S 1 [am_wb.length] [am_wb] (fun _ => gA G 2) (fun _ => gA G 3) (nwq G) U (gH G) ∧ va_Z "java/lang/String" "COMPACT_STRINGS" "Z" (.int 1) (nwq G) U (gH G) ∧ va_Zq "jdk/internal/util/Preconditions" "SIOOBE_FORMATTER" "Ljava/util/function/BiFunction;" (nwq G) U (gH G)
def Kn (U : State) : Prop := (∀ q ∈ am_mn, va_Nw (.methodLinkNest (am_own q.1) q.2.1 (am_m q.2.2).1 "TownSundays") U) ∧ va_Nw (.fieldLinkNest "TownSundays$Land" 37 "TownSundays" "MOST_OF_TERM" "[I" "TownSundays") U ∧ va_Nw (.fieldLinkNest "TownSundays$Mover" 52 "TownSundays" "MOST_OF_TERM" "[I" "TownSundays") U
def Kw (G : EG) (U : State) : Prop := va_K (gD G) am_cl (tyL G) U ∧ (vaY (gA G 0) (hpL (g0 G) 0) (hpI (g0 G) 0) U (gH G) ∧ vaY (gA G 1) 3 (hpI (g0 G) 1) U (gH G) ∧ gA G 0 < gB G ∧ gA G 1 < gB G ∧ hpT (g0 G) 0 = 0 ∧ hpT (g0 G) 1 = 0 ∧ hpL (g0 G) 1 = 3 ∧ hpT (g0 G) 2 = 9) ∧ va_Z "TownSundays" "MOST_OF_TERM" "[I" (.ref (gA G 1)) (nwq G) U (gH G) ∧ Kn U ∧ (va_AO "TownSundays$Text" U ∧ va_AO "TownSundays$Land" U) ∧ Ks G U
theorem Kn.warm {s U : State} (hW : s.WarmedH U.vm) (h : Kn s) : Kn U := ⟨fun q hq => va_Nw.warmM hW (h.1 q hq), va_Nw.warmF hW h.2.1, va_Nw.warmF hW h.2.2⟩
theorem Kn.same {s U : State} (hv : s.vm = U.vm) (h : Kn s) : Kn U := ⟨fun q hq => va_Nw.same rfl hv (h.1 q hq), va_Nw.same rfl hv h.2.1, va_Nw.same rfl hv h.2.2⟩
theorem Kw.warm {G : EG} {s U : State} (hW : s.WarmedH U.vm) (h : Kw G s) : Kw G U := by
  obtain ⟨h1, ⟨h2, h3, h3'⟩, h4, h5, ⟨h6, h7⟩, h8, h9, h10, h11⟩ := h
  have hv := hW.alike
  exact ⟨h1.moved hv, ⟨h2.moved hv, h3.moved hv, h3'⟩, h4.moved hv, h5.warm hW, ⟨h6.moved hv, h7.moved hv⟩, h8.warm hW, h9.moved hv, h10.moved hv, h11.moved hv⟩
theorem Kw.same {G : EG} {s U : State} (hv : s.vm = U.vm) (h : Kw G s) : Kw G U := by
  obtain ⟨h1, ⟨h2, h3, h3'⟩, h4, h5, ⟨h6, h7⟩, h8, h9, h10, h11⟩ := h
  have ha : s.vm.Alike U.vm := hv ▸ Vm.Alike.refl _
  exact ⟨h1.moved ha, ⟨h2.moved ha, h3.moved ha, h3'⟩, h4.moved ha, h5.same hv, ⟨h6.moved ha, h7.moved ha⟩, h8.same hv.symm, h9.moved ha, h10.moved ha, h11.moved ha⟩
/-- the locals: those that are known -/
def lvh (G : EG) (lsM : Array Slot) (nL : Nat) (ls : AL) : Prop := lsM.size = nL ∧ lv_wf lsM ∧ ls.length = nL ∧ ∀ (i : Nat) (v : AV), ls[i]? = some (some v) → lsM[i]? = some (.val (con G v))
def am_rt (y : Nat) : Nat := match mRt y with
  | none => 0
  | some .int => 1
  | some .long => 2
  | some (.object _) => 3
  | some .boolean => 4
  | _ => 9
/-- what is answered -/
def rOut (G : EG) (y : Nat) (r : RV) : Option Value := match am_rt y with
  | 0 => none
  | 2 => some (.long r.2.1)
  | 3 => some (con G (vR r.2.2))
  | _ => some (.int r.1)
def am_Q (G : EG) (y : Nat) (q : RR) : Array Value → State → Outcome → State → Prop := fun _ _ oc t => oc = .returned (rOut G y q.1) ∧ wd G q.2 t.heap ∧ Kw G t
/-- the heap only grows -/
def Ext (h h' : AH) : Prop := hpn h ≤ hpn h' ∧ hps h ≤ hps h' ∧ (∀ a, a < hpn h → hpT h' a = hpT h a ∧ hpL h' a = hpL h a)
theorem Ext.rf (h : AH) : Ext h h := ⟨Nat.le_refl _, Nat.le_refl _, fun _ _ => ⟨rfl, rfl⟩⟩
theorem Ext.tr {a b c : AH} (h : Ext a b) (k : Ext b c) : Ext a c := ⟨Nat.le_trans h.1 k.1, Nat.le_trans h.2.1 k.2.1, fun q hq => ⟨(k.2.2 q (Nat.lt_of_lt_of_le hq h.1)).1.trans (h.2.2 q hq).1, (k.2.2 q (Nat.lt_of_lt_of_le hq h.1)).2.trans (h.2.2 q hq).2⟩⟩
def CX (G : EG) (d y : Nat) (p : Program) (R : Room) (s : State) (m : MethodId) (args : Array Value) (meth : Method) (c : Code) : Prop :=
  (p.tables.exec = Jvm.exec ∧ c.code = mBy y ∧ c.maxLocals = mMl y) ∧ (meth.sig.returnType = mRt y ∧ meth.locks = false ∧ meth.name = (mNm y).name) ∧ s.vm.findClass (am_own (mOc y)) = some m.cls ∧ (∀ w ∈ gdW, w.before args s = true) ∧ Kw G s ∧ (gB G ≤ s.heap.size ∧ ∀ q : Nat, q < gB G → s.heap[q]? = (gH G)[q]?) ∧ d ≤ R.frames ∧ 64 * d ≤ R.locals
/-- from a state of method y the machine comes to its end with q; d: how many frames more -/
def V (l : Launch) (G : EG) (d y pc : Nat) (ls : AL) (st : List AV) (h : AH) (q : RR) : Prop := Ext h q.2 ∧
  ∀ (p : Program) (e : Env) (R : Room) (s : State) (m : MethodId) (args : Array Value) (below : List Frame) (meth : Method) (c : Code) (H : Heap) (locs : List Loc) (cells slots : Nat) (lsM : Array Slot) (mc ms : Nat),
    CX G d y p R s m args meth c → mc ≤ R.cells → ms ≤ R.slots → cells + (hpn q.2 - hpn h) = mc → slots + (hps q.2 - hps h) = ms → H.size = s.heap.size + cells → wd G h H → va_S (nwq G) s.heap H locs → lvh G lsM (mMl y) ls →
    W p l e R s m args below meth c H locs cells slots (MQ below (am_Q G y q) args s mc ms (nwq G)) (F0 m pc lsM (st.map (con G)))
section Pure
variable {l : Launch} {G : EG} {d y pc pc' : Nat} {ls ls' : AL} {st st' : List AV} {h : AH} {q : RR}
/-- a step that leaves the heap alone -/
theorem V.pure (hV : V l G d y pc' ls' st' h q)
    (hs : ∀ (p : Program) (e : Env) (R : Room) (s : State) (m : MethodId) (args : Array Value) (below : List Frame) (meth : Method) (c : Code) (H : Heap) (locs : List Loc) (cells slots : Nat) (lsM : Array Slot) (Q : State → Prop),
      CX G d y p R s m args meth c → wd G h H → va_S (nwq G) s.heap H locs → lvh G lsM (mMl y) ls → (∀ lsM', lvh G lsM' (mMl y) ls' → W p l e R s m args below meth c H locs cells slots Q (F0 m pc' lsM' (st'.map (con G)))) → W p l e R s m args below meth c H locs cells slots Q (F0 m pc lsM (st.map (con G)))) : V l G d y pc ls st h q := by
  refine ⟨hV.1, ?_⟩
  intro p e R s m args below meth c H locs cells slots lsM mc ms hC h1 h2 h3 h4 hz h5 h6 h7
  exact hs p e R s m args below meth c H locs cells slots lsM _ hC h5 h6 h7 fun lsM' h8 => hV.2 p e R s m args below meth c H locs cells slots lsM' mc ms hC h1 h2 h3 h4 hz h5 h6 h8
theorem V.forget (hV : V l G d y pc ls' st h q) (hl : ls'.length = ls.length) (hs : ∀ (i : Nat) (v : AV), ls'[i]? = some (some v) → ls[i]? = some (some v)) : V l G d y pc ls st h q := by
  refine hV.pure ?_
  intro p e R s m args below meth c H locs cells slots lsM Q hC hw hS hl' k
  exact k lsM ⟨hl'.1, hl'.2.1, hl.trans hl'.2.2.1, fun i v hv => hl'.2.2.2 i v (hs i v hv)⟩
def asc (G : EG) (ls : AL) : List (Nat × Value) := (List.range ls.length).filterMap fun i => match ls[i]? with
  | some (some v) => some (i, con G v)
  | _ => none
theorem mem_asc {G : EG} {ls : AL} {i : Nat} {v : AV} (hi : ls[i]? = some (some v)) : (i, con G v) ∈ asc G ls := by
  have hlt : i < ls.length := (List.getElem?_eq_some_iff.mp hi).1
  exact List.mem_filterMap.mpr ⟨i, List.mem_range.mpr hlt, by rw [hi]⟩
theorem lvh.has {lsM : Array Slot} {nL : Nat} (hl : lvh G lsM nL ls) : lv_has lsM nL (asc G ls) := by
  refine ⟨hl.1, hl.2.1, fun q hq => ?_⟩
  obtain ⟨i, -, hi⟩ := List.mem_filterMap.mp hq
  cases hx : ls[i]? with
  | none => rw [hx] at hi; cases hi
  | some o =>
    cases o with
    | none => rw [hx] at hi; cases hi
    | some v => rw [hx] at hi; cases hi; exact hl.2.2.2 i v hx
theorem con_cat (G : EG) (v : AV) (h : (con G v).category = 2) : ∃ x, v = vJ x := by
  match v, h with
  | .inl x, h => simp [con, Value.category] at h
  | .inr (.inl x), h => exact ⟨x, rfl⟩
  | .inr (.inr none), h => simp [con, Value.category] at h
  | .inr (.inr (some k)), h => simp [con, Value.category] at h
theorem ok1_lt {ls : AL} {i : Nat} (h : am_ok1 ls i = true) : i < ls.length := by
  unfold am_ok1 at h
  rw [Bool.and_eq_true] at h
  exact Nat.blt_eq.mp h.1
theorem ok1_nj {ls : AL} {i j : Nat} {x : Int64} (h : am_ok1 ls i = true) (hij : j + 1 = i) (hj : ls[j]? = some (some (vJ x))) : False := by
  subst hij
  unfold am_ok1 at h
  rw [Bool.and_eq_true] at h
  have h2 := h.2
  simp [hj] at h2
theorem lvh.st1 {lsM lsM' : Array Slot} {nL i : Nat} {v : AV} (hl : lvh G lsM nL ls) (hok : am_ok1 ls i = true) (h' : lv_has lsM' nL ((i, con G v) :: (asc G ls).filter (fun q => !(q.1 == i) && !(q.1 + 1 == i && q.2.category == 2)))) : lvh G lsM' nL (ls.set i (some v)) := by
  refine ⟨h'.1, h'.2.1, by rw [List.length_set]; exact hl.2.2.1, fun j w hj => ?_⟩
  by_cases hji : j = i
  · subst hji
    rw [List.getElem?_set_self (ok1_lt hok)] at hj
    cases hj
    exact h'.2.2 (j, con G v) List.mem_cons_self
  · rw [List.getElem?_set_ne (fun z => hji z.symm)] at hj
    refine h'.2.2 (j, con G w) (List.mem_cons_of_mem _ (List.mem_filter.mpr ⟨mem_asc hj, ?_⟩))
    by_cases hc : j + 1 = i ∧ (con G w).category = 2
    · obtain ⟨x, rfl⟩ := con_cat G w hc.2
      exact (ok1_nj hok hc.1 hj).elim
    · simp only [Bool.and_eq_true, Bool.not_eq_true', beq_eq_false_iff_ne, ne_eq, Bool.and_eq_false_iff]
      refine ⟨hji, ?_⟩
      by_cases ha : j + 1 = i
      · exact Or.inr fun z => hc ⟨ha, z⟩
      · exact Or.inl ha
theorem lvh.st2 {lsM lsM' : Array Slot} {nL i : Nat} {x : Int64} (hl : lvh G lsM nL ls) (hok : am_ok1 ls i = true) (h' : lv_has lsM' nL ((i, Value.long x) :: (asc G ls).filter (fun q => !(q.1 == i) && (!(q.1 == i + 1) && !(q.1 + 1 == i && q.2.category == 2))))) : lvh G lsM' nL ((ls.set i (some (vJ x))).set (i + 1) none) := by
  refine ⟨h'.1, h'.2.1, by rw [List.length_set, List.length_set]; exact hl.2.2.1, fun j w hj => ?_⟩
  by_cases hj1 : j = i + 1
  · subst hj1
    rw [List.getElem?_set] at hj
    rw [if_pos rfl] at hj
    by_cases hz : i + 1 < (ls.set i (some (vJ x))).length
    · rw [if_pos hz] at hj; cases hj
    · rw [if_neg hz] at hj; cases hj
  rw [List.getElem?_set_ne (fun z => hj1 z.symm)] at hj
  by_cases hji : j = i
  · subst hji
    rw [List.getElem?_set_self (ok1_lt hok)] at hj
    cases hj
    exact h'.2.2 (j, Value.long x) List.mem_cons_self
  · rw [List.getElem?_set_ne (fun z => hji z.symm)] at hj
    refine h'.2.2 (j, con G w) (List.mem_cons_of_mem _ (List.mem_filter.mpr ⟨mem_asc hj, ?_⟩))
    by_cases hc : j + 1 = i ∧ (con G w).category = 2
    · obtain ⟨x, rfl⟩ := con_cat G w hc.2
      exact (ok1_nj hok hc.1 hj).elim
    · simp only [Bool.and_eq_true, Bool.not_eq_true', beq_eq_false_iff_ne, ne_eq, Bool.and_eq_false_iff]
      refine ⟨hji, hj1, ?_⟩
      by_cases ha : j + 1 = i
      · exact Or.inr fun z => hc ⟨ha, z⟩
      · exact Or.inl ha
end Pure
