/-! The start: what the Statement gives, as the small machine has it; the law's walk out of its answer (by program, wip/whole/gen26.py) -/
def R_law : String := "TownSundaysLaw"
def lw_At (p : Program) (s : State) (m : MethodId) (meth : Method) (c : Code) (b L : Nat) (xs : Nat → Int32) : Prop :=
  p.tables.exec = Jvm.exec ∧ c.code = code ∧ meth.sig.returnType = ret ∧ c.maxLocals = 4 ∧ s.vm.findClass R_law = some m.cls ∧ (∀ w ∈ lw_tbl, w.before #[Value.ref b] s = true) ∧ va_X b L xs s s.heap ∧ b < s.heap.size ∧ meth.locks = false ∧ (Jvm.Cond.and given_1 narrow_1).before #[Value.ref b] s = true
def z0T (a : Nat) : Nat := match a with
  | 0 => 0
  | 1 => 0
  | _ => 9
def z0L (L : Nat) (a : Nat) : Nat := match a with
  | 0 => L
  | 1 => 3
  | _ => 0
def z0M (i : Nat) : Int := match i with
  | 0 => 999
  | 1 => 10
  | 2 => 9
  | _ => 0
def z0I (xs : Nat → Int32) (a i : Nat) : Int := match a with
  | 0 => (xs i).toInt
  | 1 => z0M i
  | _ => 0
/-- the cells at the law's start: the script, the years' bounds, the words -/
def z0 (L : Nat) (xs : Nat → Int32) : IH := ((3, 0), z0T, z0L L, z0I xs, fun _ _ => 0, fun _ _ => none)
theorem z0_ok (L : Nat) (xs : Nat → Int32) : okH (z0 L xs) := by
  refine ⟨fun a i => ?_, fun a i => wl_0⟩
  show wr (z0I xs a i) = z0I xs a i
  unfold z0I
  split
  · exact wr_i _
  · unfold z0M
    split <;> decide
  · exact wr_0
section P26
variable {s : State} {b : Nat}
theorem st_arr {A : Array Value} {ty : FieldType} (hty : ∀ C, ty ≠ .object C) (h : (Cond.arrayClass ty).before A s = true) : ∃ cA : ClassId, ArrOfT s cA ty ∧ va_RA s cA ty := by
  obtain ⟨cA, kA, comp, h1, h2, h3⟩ := Cond.arrayClass_spec h
  refine ⟨cA, fun n z => ⟨fun k h => (by cases h), kA, h2, comp, h3⟩, ?_⟩
  cases ty with
  | object C => exact absurd rfl (hty C)
  | _ => exact h1
theorem st_arrO {A : Array Value} {C : String} (h : (Cond.arrayOver (.object C)).before A s = true) : ∃ cA : ClassId, ArrOfT s cA (.object C) ∧ va_RA s cA (.object C) := by
  obtain ⟨comp, c, k, h1, h2, h3, h4, h5⟩ := Cond.arrayOver_spec h
  exact ⟨c, fun n z => ⟨fun k h => (by cases h), k, h3, comp, h4⟩, k, comp, h3, h4, h1, h5⟩
theorem st_kn (hts : ∀ w ∈ lw_tbl, w.before #[Value.ref b] s = true) : ∃ (dC : Nat → ClassId) (dI : Nat → Nat → Nat), ∀ (k : Nat) (q : vw_C), am_cl[k]? = some q → u_Kn s q.1 q.2.1 q.2.2 (dC k) (dI k) := by
  obtain ⟨c0, v0, n0⟩ := u_known (C := "TownSundays$Judge") (T := F_0) (N := 2) (n := 2) hts i_0 (hts (.instantiable "TownSundays$Judge" 2) (List.mem_of_getElem? (i := 362) (by decide +kernel)))
  obtain ⟨c1, v1, n1⟩ := u_known (C := "TownSundays$Land") (T := F_1) (N := 15) (n := 15) hts i_1 (hts (.instantiable "TownSundays$Land" 15) (List.mem_of_getElem? (i := 163) (by decide +kernel)))
  obtain ⟨c2, v2, n2⟩ := u_known (C := "TownSundays$Mover") (T := F_2) (N := 2) (n := 2) hts i_2 (hts (.instantiable "TownSundays$Mover" 2) (List.mem_of_getElem? (i := 385) (by decide +kernel)))
  obtain ⟨c3, v3, n3⟩ := u_known (C := "TownSundays$Paper") (T := F_3) (N := 6) (n := 6) hts i_3 (hts (.instantiable "TownSundays$Paper" 6) (List.mem_of_getElem? (i := 444) (by decide +kernel)))
  obtain ⟨c4, v4, n4⟩ := u_known (C := "TownSundays$Past") (T := F_4) (N := 3) (n := 3) hts i_4 (hts (.instantiable "TownSundays$Past" 3) (List.mem_of_getElem? (i := 427) (by decide +kernel)))
  obtain ⟨c5, v5, n5⟩ := u_known (C := "TownSundays$Reader") (T := F_5) (N := 10) (n := 10) hts i_5 (hts (.instantiable "TownSundays$Reader" 10) (List.mem_of_getElem? (i := 278) (by decide +kernel)))
  obtain ⟨c6, v6, n6⟩ := u_known (C := "TownSundays$Reckoner") (T := F_6) (N := 1) (n := 1) hts i_6 (hts (.instantiable "TownSundays$Reckoner" 1) (List.mem_of_getElem? (i := 368) (by decide +kernel)))
  obtain ⟨c7, v7, n7⟩ := u_known (C := "TownSundays$Runner") (T := F_7) (N := 5) (n := 5) hts i_7 (hts (.instantiable "TownSundays$Runner" 5) (List.mem_of_getElem? (i := 400) (by decide +kernel)))
  obtain ⟨c8, v8, n8⟩ := u_known (C := "TownSundays$Tape") (T := F_8) (N := 2) (n := 2) hts i_8 (hts (.instantiable "TownSundays$Tape" 2) (List.mem_of_getElem? (i := 263) (by decide +kernel)))
  obtain ⟨c9, v9, n9⟩ := u_known (C := "TownSundays$Text") (T := F_9) (N := 8) (n := 8) hts i_9 (hts (.instantiable "TownSundays$Text" 8) (List.mem_of_getElem? (i := 284) (by decide +kernel)))
  obtain ⟨c10, v10, n10⟩ := u_known (C := "TownSundays$WayHome") (T := F_10) (N := 9) (n := 9) hts i_10 (hts (.instantiable "TownSundays$WayHome" 9) (List.mem_of_getElem? (i := 469) (by decide +kernel)))
  obtain ⟨c11, v11, n11⟩ := u_known (C := "TownSundays") (T := F_11) (N := 18) (n := 18) hts i_11 (hts (.instantiable "TownSundays" 18) (List.mem_of_getElem? (i := 155) (by decide +kernel)))
  obtain ⟨c12, v12, n12⟩ := u_known (C := "TownSundaysModel") (T := F_12) (N := 57) (n := 57) hts i_12 (hts (.instantiable "TownSundaysModel" 57) (List.mem_of_getElem? (i := 1231) (by decide +kernel)))
  refine ⟨fun k => [c0, c1, c2, c3, c4, c5, c6, c7, c8, c9, c10, c11, c12].getD k c0, fun k => [v0, v1, v2, v3, v4, v5, v6, v7, v8, v9, v10, v11, v12].getD k v0, ?_⟩
  intro k q hq
  match k, hq with
  | 0, hq => cases hq; exact n0
  | 1, hq => cases hq; exact n1
  | 2, hq => cases hq; exact n2
  | 3, hq => cases hq; exact n3
  | 4, hq => cases hq; exact n4
  | 5, hq => cases hq; exact n5
  | 6, hq => cases hq; exact n6
  | 7, hq => cases hq; exact n7
  | 8, hq => cases hq; exact n8
  | 9, hq => cases hq; exact n9
  | 10, hq => cases hq; exact n10
  | 11, hq => cases hq; exact n11
  | 12, hq => cases hq; exact n12
  | k + 13, hq => simp [am_cl] at hq
set_option maxRecDepth 100000 in
theorem st_all {L : Nat} {xs : Nat → Int32} {p : Program} {m : MethodId} {meth : Method} {c : Code} (C0 : lw_At p s m meth c b L xs) : ∃ G : EG, gH G = s.heap ∧ gA G 0 = b ∧ g0 G = cvH (z0 L xs) ∧ Kw G s := by
  obtain ⟨hx, hb, hr, hml, hown, hts, hX, hbl, hlocks, hgv⟩ := C0
  have hs := flat_of_before _ hgv
  obtain ⟨dC, dI, hKn⟩ := st_kn hts
  obtain ⟨a0, A0, B0⟩ := st_arr (ty := .int) (fun C e => by cases e) (hts (.arrayClass .int) (List.mem_of_getElem? (i := 260) (by decide +kernel)))
  obtain ⟨a1, A1, B1⟩ := st_arr (ty := .long) (fun C e => by cases e) (hts (.arrayClass .long) (List.mem_of_getElem? (i := 558) (by decide +kernel)))
  obtain ⟨a2, A2, B2⟩ := st_arr (ty := .byte) (fun C e => by cases e) (hts (.arrayClass .byte) (List.mem_of_getElem? (i := 855) (by decide +kernel)))
  obtain ⟨a3, A3, B3⟩ := st_arr (ty := .boolean) (fun C e => by cases e) (hts (.arrayClass .boolean) (List.mem_of_getElem? (i := 1408) (by decide +kernel)))
  have h4 := hts (.arrayOver (.object "TownSundays$Text")) (List.mem_of_getElem? (i := 171) (by decide +kernel))
  have h5 := hts (.arrayOver (.object "TownSundays$Land")) (List.mem_of_getElem? (i := 261) (by decide +kernel))
  obtain ⟨a4, A4, B4⟩ := st_arrO h4
  obtain ⟨a5, A5, B5⟩ := st_arrO h5
  have hA : ∀ a : Nat, a < s.heap.size → ¬ (fun q : Nat => s.heap.size ≤ q) a := fun a h => Nat.not_le.mpr h
  obtain ⟨t1, ht1, hT1⟩ := va_Tof (s := s) (args := #[Value.ref b]) (tm := .static "TownSundays" "MOST_OF_TERM" "[I") (ty := .int) (N := 3) (f := fun j => .int (Int32.ofInt (z0M j))) (A := fun q : Nat => s.heap.size ≤ q) (by decide) (hs _ (by decide +kernel)) (va_eqt (hs (.eq (.length (.static "TownSundays" "MOST_OF_TERM" "[I")) (.int 3)) (by decide +kernel))) (fun j hj => by
    rcases (show j = 0 ∨ j = 1 ∨ j = 2 by omega) with rfl | rfl | rfl
    · exact va_eqt (hs (.eq (.elem (.static "TownSundays" "MOST_OF_TERM" "[I") (.int 0)) (.int 999)) (by decide +kernel))
    · exact va_eqt (hs (.eq (.elem (.static "TownSundays" "MOST_OF_TERM" "[I") (.int 1)) (.int 10)) (by decide +kernel))
    · exact va_eqt (hs (.eq (.elem (.static "TownSundays" "MOST_OF_TERM" "[I") (.int 2)) (.int 9)) (by decide +kernel))) hA
  have hZ1 := va_Zof (args := #[Value.ref b]) (s := s) (A := fun q : Nat => s.heap.size ≤ q) (hts (.laysStatic "TownSundays" "MOST_OF_TERM" "[I") (List.mem_of_getElem? (i := 169) (by decide +kernel))) (hts (.initialized "TownSundays") (List.mem_of_getElem? (i := 133) (by decide +kernel))) ht1 hA
  have hZ2 := va_Zof (args := #[Value.ref b]) (s := s) (A := fun q : Nat => s.heap.size ≤ q) (hts (.laysStatic "java/lang/String" "COMPACT_STRINGS" "Z") (List.mem_of_getElem? (i := 731) (by decide +kernel))) (hts (.initialized "java/lang/String") (List.mem_of_getElem? (i := 148) (by decide +kernel))) (va_eqi (hs (.eq (.static "java/lang/String" "COMPACT_STRINGS" "Z") (.int 1)) (by decide +kernel))) hA
  have hZ3 := va_Zqof (args := #[Value.ref b]) (s := s) (A := fun q : Nat => s.heap.size ≤ q) (hts (.laysStatic "jdk/internal/util/Preconditions" "SIOOBE_FORMATTER" "Ljava/util/function/BiFunction;") (List.mem_of_getElem? (i := 747) (by decide +kernel))) (hts (.initialized "jdk/internal/util/Preconditions") (List.mem_of_getElem? (i := 150) (by decide +kernel))) (hs _ (by decide +kernel)) hA
  have hlb : am_wb.length = 135 := by decide +kernel
  have hel : ((List.range 135).all fun j => (flatC (Cond.and given_1 narrow_1)).contains (.eq (.elem (.field (.string "TownSundays$Reader" 78) "java/lang/String" "value" "[B") (.int (Int32.ofNat j))) (.int (am_wb.getD j 0)))) = true := by decide +kernel
  obtain ⟨adK, adV, hSt, hEv⟩ := vk_Sof (args := #[Value.ref b]) (s := s) (N := 1) (tm := fun _ => .string "TownSundays$Reader" 78) (len := [am_wb.length]) (byt := [am_wb]) (A := fun q : Nat => s.heap.size ≤ q)
    (fun i hi => by rw [show i = 0 by omega, hlb]; decide) (fun i hi => hs _ (by decide +kernel)) (fun i hi => hs (.eq (.field (.string "TownSundays$Reader" 78) "java/lang/String" "coder" "B") (.int 0)) (by decide +kernel))
    (fun i hi => hs _ (by decide +kernel)) (fun i hi => by rw [show i = 0 by omega, hlb]; exact hs (.eq (.length (.field (.string "TownSundays$Reader" 78) "java/lang/String" "value" "[B")) (.int 135)) (by decide +kernel))
    (fun i hi j hj => by
      rw [show i = 0 by omega] at hj ⊢
      have hj : j < 135 := by rw [hlb] at hj; exact hj
      have h1 := List.all_eq_true.mp hel j (List.mem_range.mpr hj)
      have h2 := hs _ (List.contains_iff_mem.mp h1)
      show (Cond.eq (.elem (.field (.string "TownSundays$Reader" 78) "java/lang/String" "value" "[B") (.int (Int32.ofNat j))) (.int (am_wb.getD j 0))).before #[Value.ref b] s = true
      exact h2)
    (fun i j hi hj hij => absurd (by omega : i = j) hij) hA
  have hR : vk_R "TownSundays$Reader" 78 am_wt (adK 0) s := by
    refine vk_R.of (A := #[Value.ref b]) (hts (.stringRef "TownSundays$Reader" 78 am_wt) (List.mem_of_getElem? (i := 721) (by decide +kernel))) ?_
    exact hEv 0 (by decide)
  let G : EG := ((dC, dI), fun k => [a0, a1, a2, a3, a4, a5].getD k a0, fun k => [b, t1, adK 0, adV 0].getD k 0, s.heap, cvH (z0 L xs))
  have hv : vk_S 1 [am_wb.length] [am_wb] (fun _ => adK 0) (fun _ => adV 0) (fun q : Nat => s.heap.size ≤ q) s s.heap := ⟨fun i hi => by rw [show i = 0 by omega]; exact hSt.1 0 (by decide), fun i j hi hj _ => by omega⟩
  refine ⟨G, rfl, rfl, rfl, ⟨hKn, ?_⟩, ⟨?_, ?_, hbl, ?_, rfl, rfl, rfl, rfl⟩, hZ1, ⟨?_, ?_, ?_⟩, ⟨va_AO.of h4, va_AO.of h5⟩, hR, hv, hZ2, hZ3⟩
  · intro k q hq
    match k, hq with
    | 0, hq => cases hq; exact ⟨A0, B0⟩
    | 1, hq => cases hq; exact ⟨A1, B1⟩
    | 2, hq => cases hq; exact ⟨A2, B2⟩
    | 3, hq => cases hq; exact ⟨A3, B3⟩
    | 4, hq => cases hq; exact ⟨A4, B4⟩
    | 5, hq => cases hq; exact ⟨A5, B5⟩
    | k + 6, hq => simp [tyL] at hq
  · obtain ⟨scr, x1, x2, x3, x4, x5⟩ := hX
    refine ⟨scr, x1, x2, x3, ⟨by rw [x4]; exact Nat.le_refl _, by rw [x4]; rfl⟩, fun j hj => ?_⟩
    rw [x5 j hj]
    show _ = some (Value.int (Int32.ofInt (xs j).toInt))
    rw [Int32.ofInt_toInt]
  · obtain ⟨cell, y1, y2, y3, y4, y5, y6, y7⟩ := hT1
    exact ⟨cell, y1, y2, y3, ⟨y4, y5⟩, y6⟩
  · exact (Array.getElem?_eq_some_iff.mp hT1.choose_spec.1).1
  · intro q hq
    exact hts _ (map_mem am_mn_ok _ hq)
  · exact hts (.fieldLinkNest "TownSundays$Land" 37 "TownSundays" "MOST_OF_TERM" "[I" "TownSundays") (List.mem_of_getElem? (i := 168) (by decide +kernel))
  · exact hts (.fieldLinkNest "TownSundays$Mover" 52 "TownSundays" "MOST_OF_TERM" "[I" "TownSundays") (List.mem_of_getElem? (i := 920) (by decide +kernel))
/-- WHAT IS OWED BELOW: the law ends with 1, in its room -/
def lawOk (d : Nat) : Prop := ∀ (L : Nat) (xs : Nat → Int32), L ≤ 6 → ∃ h' : IH, lpL d 1000000 0 [some (iR (some 0)), none, none, none] [] (z0 L xs) = some (oI 1, h') ∧ hN h' ≤ 600003 ∧ hS h' ≤ 7302250
def lw_Q (_ : Array Value) (s : State) (o : Outcome) (t : State) : Prop := o = .returned (some (.int 1)) ∧ Framed s o t [] 600000 7302250
def lw_Z (below : List Frame) (a : Array Value) (s : State) : State → Prop := fun t => ∃ o, t.status = .running ∧ Ended t below o ∧ lw_Q a s o t
theorem whole_of {d : Nat} (hd : d ≤ 1000) (hlaw : lawOk d) {p : Program} {e : Env} {m : MethodId} {below : List Frame} {meth : Method} {c : Code} (hnm : meth.name = "law") (l : Launch) {L : Nat} {xs : Nat → Int32} (hL : L ≤ 6) (C0 : lw_At p s m meth c b L xs) : W p l e room_1 s m #[Value.ref b] below meth c s.heap [] 0 0 (lw_Z below #[Value.ref b] s) (entryFrame m ([Value.ref b] : List Value).toArray 4) := by
  obtain ⟨G, g1, g2, g3, hK⟩ := st_all C0
  obtain ⟨hx, hb, hr, hml, hown, hts, hX, hbl, hlocks, hgv⟩ := C0
  obtain ⟨h', hq, hc1, hc2⟩ := hlaw L xs hL
  have hNN : ∀ y, ∀ e ∈ PGT y, okN e = true := fun y e he => (chk_sp (fun z => by rw [z] at he; cases he)).2.1 e he
  have hcl := chkL
  simp only [Bool.and_eq_true, List.all_eq_true] at hcl
  obtain ⟨⟨⟨⟨k1, k2⟩, k3⟩, k4⟩, k5⟩ := hcl
  have k1 := chPs_ok cd_L 0 _ (by rw [List.drop_zero]) k1
  have k4 := Nat.eq_of_beq_eq_true k4
  have k5 := Nat.eq_of_beq_eq_true k5
  have q1 := lp_im (cd := cd_L) (cut := ct_L) (fun e he => (k2 e he).2) (run_im hNN (fun y hy => ⟨(chk_sp hy).2.2.1, (chk_sp hy).2.2.2.1⟩) d) _ _ _ _ _ _ (fun i v hi => by
    match i, hi with
    | 0, hi => cases hi; trivial
    | 1, hi => cases hi
    | 2, hi => cases hi
    | 3, hi => cases hi
    | i + 4, hi => simp at hi) (fun _ z => absurd z List.not_mem_nil) (z0_ok L xs) hq
  have hV := lp_ok (l := l) (G := G) (y := 307) (d := d + 5 + 1) (d' := d + 5) (cd := cd_L) (cut := ct_L) (q := cvQ (oI 1, h')) (fun e he => by
    unfold okE
    rw [Bool.and_eq_true, Bool.and_eq_true, decide_eq_true_eq]
    exact ⟨⟨k1 e he, by rw [Bool.or_eq_true]; have := (k2 e he).1.1; rwa [Bool.or_eq_true] at this⟩, (k2 e he).1.2⟩) k3 (Nat.le_refl _) (by omega)
    (fun k as h1 q1 hk => run_ok (l := l) (G := G) (PG := PGT) (CT := CTT) (fun y hy => ⟨(chk_sp hy).1, (chk_sp hy).2.2.2.2⟩) d k as h1 q1 hk) 1000000 0 _ _ _ (by rw [k4]; exact q1.2)
  have hl := lv_entry ([.ref b]) (n := 4) (Nat.le_of_ble_eq_true rfl)
  rw [lg_entry_eq]
  generalize (lg_sl ([.ref b]) ++ List.replicate (4 - (lg_sl ([.ref b])).length) Slot.unset).toArray = lsM at hl ⊢
  have hbn : gB G = s.heap.size := by unfold gB; rw [g1]
  have hwd : wd G (cvH (z0 L xs)) s.heap := by
    refine ⟨Nat.le_refl _, by rw [hbn]; rfl, fun k h1 h2 => absurd h2 (Nat.not_lt.mpr h1), fun q hq => by rw [g1], fun a ha => by rw [g3]; exact ⟨rfl, rfl, fun _ => rfl⟩, fun a ha => ?_⟩
    show z0T a = 9
    have : 3 ≤ a := ha
    unfold z0T
    split <;> first | omega | rfl
  have key := hV.2 p e room_1 s m #[Value.ref b] below meth c s.heap [] 0 0 lsM (hpn (cvH h') - 3) (hps (cvH h') - 0)
    ⟨⟨hx, hb, by rw [hml, k5]⟩, ⟨hr, hlocks, hnm⟩, hown, fun w hw => hts w (List.mem_filter.mp hw).1, hK, ⟨by rw [hbn]; exact Nat.le_refl _, fun q hq => by rw [g1]⟩, by show d + 5 + 1 ≤ 2048; omega, by show 64 * (d + 5 + 1) ≤ 84000; omega⟩
    (by show hN h' - 3 ≤ 600000; omega) (by show hS h' - 0 ≤ 7302250; omega) (Nat.zero_add _) (Nat.zero_add _) rfl hwd va_S.rf ⟨hl.1.trans k5.symm, hl.2.1, by rw [k5]; rfl, fun i v hi => by
      match i, hi with
      | 0, hi =>
        cases hi
        have := hl.2.2 (0, .ref b) List.mem_cons_self
        rw [this]
        show some (Slot.val (Value.ref b)) = some (Slot.val (Value.ref (adr G 0)))
        have ea : adr G 0 = b := g2
        rw [ea]
      | 1, hi => cases hi
      | 2, hi => cases hi
      | 3, hi => cases hi
      | i + 4, hi => simp [cvL] at hi⟩
  intro T hT X
  obtain ⟨t, t1, oc, t2, t3, ⟨t4, -, -⟩, Ls, ⟨f1, f2, f3⟩, f4⟩ := key T hT X
  refine ⟨t, t1, oc, t2, t3, ?_, f1, f2, f3.weaken (fun y hy hlt => absurd hlt (Nat.not_lt.mpr (by have := f4 y hy; unfold nwq at this; rwa [hbn] at this))) (by show hN h' - 3 ≤ 600000; omega) (by show hS h' - 0 ≤ 7302250; omega)⟩
  rw [t4]
  unfold rOut
  rw [k4]
  rfl
end P26
