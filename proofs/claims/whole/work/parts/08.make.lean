/-! Statics, makings, copies, ends, tables of jumps -/
section P8
variable {l : Launch} {G : EG} {d y pc pc' : Nat} {ls ls' : AL} {st st' : List AV} {h h' : AH} {q : RR}
theorem mb_st : Cond.fieldLink "TownSundays" 162 "TownSundays" "MOST_OF_TERM" "[I" ∈ gdW := gd_in (List.mem_of_getElem? (i := 668) (by decide +kernel)) rfl
theorem CX.z {p : Program} {R : Room} {s : State} {m : MethodId} {args : Array Value} {meth : Method} {c : Code} (hC : CX G d y p R s m args meth c) : va_Z "TownSundays" "MOST_OF_TERM" "[I" (.ref (gA G 1)) (nwq G) s s.heap :=
  hC.2.2.2.2.1.2.2.1.kept fun a ha _ => hC.2.2.2.2.2.1.2 a ha
theorem s_gets {idx : Nat} (hd : decode (mBy y) pc = .ok (.getstatic idx, 3)) (hq : (mOc y = 11 ∧ idx = 162) ∨ (mOc y = 1 ∧ idx = 37) ∨ (mOc y = 2 ∧ idx = 52)) (hV : V l G d y (pc + 3) ls (vR (some 1) :: st) h q) : V l G d y pc ls st h q := hV.pure fun p e R s m args below meth c H locs cells slots lsM Q hC hw hS hl kk => by
  have ho := hC.2.2.1
  rcases hq with ⟨e1, rfl⟩ | ⟨e1, rfl⟩ | ⟨e1, rfl⟩
  · rw [e1] at ho
    exact va_gets hC.1.1 hC.1.2.1 hC.z hS (own := "TownSundays") ho (hC.2.2.2.1 _ mb_st) (fun x hx => hx) hd (kk lsM hl)
  · rw [e1] at ho
    exact va_getsN hC.1.1 hC.1.2.1 hC.z hS (own := "TownSundays$Land") ho (va_Nw.use rfl hC.2.2.2.2.1.2.2.2.1.2.1) (fun x hx => hx) hd (kk lsM hl)
  · rw [e1] at ho
    exact va_getsN hC.1.1 hC.1.2.1 hC.z hS (own := "TownSundays$Mover") ho (va_Nw.use rfl hC.2.2.2.2.1.2.2.2.1.2.2) (fun x hx => hx) hd (kk lsM hl)
theorem mk_I {t n b : Nat} (hb : b ≠ hpn h) : hpI (mkC h t n) b = hpI h b := by funext j; show (if b = hpn h then 0 else hpI h b j) = _; rw [if_neg hb]
theorem mk_J {t n b : Nat} (hb : b ≠ hpn h) : hpJ (mkC h t n) b = hpJ h b := by funext j; show (if b = hpn h then 0 else hpJ h b j) = _; rw [if_neg hb]
theorem mk_R {t n b : Nat} (hb : b ≠ hpn h) : hpR (mkC h t n) b = hpR h b := by funext j; show (if b = hpn h then none else hpR h b j) = _; rw [if_neg hb]
theorem mk_T {t n b : Nat} (hb : b ≠ hpn h) : hpT (mkC h t n) b = hpT h b := if_neg hb
theorem mk_L {t n b : Nat} (hb : b ≠ hpn h) : hpL (mkC h t n) b = hpL h b := if_neg hb
theorem mk_T0 {t n : Nat} : hpT (mkC h t n) (hpn h) = t := if_pos rfl
theorem mk_L0 {t n : Nat} : hpL (mkC h t n) (hpn h) = n := if_pos rfl
theorem mk_I0 {t n : Nat} : hpI (mkC h t n) (hpn h) = fun _ => 0 := by funext j; exact if_pos rfl
theorem mk_J0 {t n : Nat} : hpJ (mkC h t n) (hpn h) = fun _ => 0 := by funext j; exact if_pos rfl
theorem mk_R0 {t n : Nat} : hpR (mkC h t n) (hpn h) = fun _ => none := by funext j; exact if_pos rfl
theorem wd.new {H H1 : Heap} {t n : Nat} (hw : wd G h H) (ht : t ≠ 9) (z : H1.size = H.size + 1) (oq : ∀ q : Nat, q < H.size → H1[q]? = H[q]?) (hat : va_at (gD G) am_cl (adr G (hpn h), toE G (mkC h t n) (hpn h)) H1) : wd G (mkC h t n) H1 := by
  obtain ⟨w1, w2, w3, w4, w5, w6⟩ := hw
  refine ⟨Nat.le_succ_of_le w1, ?_, ?_, ?_, ?_, ?_⟩
  · show H1.size = gB G + (hpn h + 1 - 3)
    omega
  · intro k hk hk2
    have hk2 : k < hpn h + 1 := hk2
    by_cases hkn : k = hpn h
    · subst hkn; exact hat
    · rw [toE_congr (mk_T hkn) (mk_L hkn) (mk_I hkn) (mk_J hkn) (mk_R hkn)]
      have hv := w3 k hk (by omega)
      exact hv.kept (oq _ hv.lt)
  · intro q hq
    exact (oq q (by omega)).trans (w4 q hq)
  · intro a ha
    have hne : a ≠ hpn h := by omega
    exact ⟨(mk_T hne).trans (w5 a ha).1, (mk_L hne).trans (w5 a ha).2.1, fun j => by rw [mk_I hne]; exact (w5 a ha).2.2 j⟩
  · intro a ha
    have ha : hpn h + 1 ≤ a := ha
    rw [mk_T (by omega)]
    exact w6 a (by omega)
theorem V.make {t n : Nat} (hV : V l G d y pc' ls st' (mkC h t n) q)
    (hs : ∀ (p : Program) (e : Env) (R : Room) (s : State) (m : MethodId) (args : Array Value) (below : List Frame) (meth : Method) (c : Code) (H : Heap) (locs : List Loc) (cells slots : Nat) (lsM : Array Slot) (Q : State → Prop),
      CX G d y p R s m args meth c → wd G h H → va_S (nwq G) s.heap H locs → cells + 1 ≤ R.cells → slots + n ≤ R.slots → (∀ (H1 : Heap), wd G (mkC h t n) H1 → va_S (nwq G) s.heap H1 locs → W p l e R s m args below meth c H1 locs (cells + 1) (slots + n) Q (F0 m pc' lsM (st'.map (con G)))) → W p l e R s m args below meth c H locs cells slots Q (F0 m pc lsM (st.map (con G)))) : V l G d y pc ls st h q := by
  have e1 : hpn h + 1 ≤ hpn q.2 := hV.1.1
  have e2 : hps h + n ≤ hps q.2 := hV.1.2.1
  refine ⟨⟨by omega, by omega, fun a ha => ?_⟩, ?_⟩
  · have := hV.1.2.2 a (Nat.lt_succ_of_lt ha)
    rw [mk_T (by omega), mk_L (by omega)] at this
    exact this
  intro p e R s m args below meth c H locs cells slots lsM mc ms hC h1 h2 h3 h4 hz h5 h6 h7
  exact hs p e R s m args below meth c H locs cells slots lsM _ hC h5 h6 (by omega) (by omega) fun H1 k1 k2 => hV.2 p e R s m args below meth c H1 locs (cells + 1) (slots + n) lsM mc ms hC h1 h2 (by show cells + 1 + (hpn q.2 - (hpn h + 1)) = mc; omega) (by show slots + n + (hps q.2 - (hps h + n)) = ms; omega) (by rw [k1.2.1]; show gB G + (hpn h + 1 - 3) = _; have := h5.2.1; have := h5.1; omega) k1 k2 h7
theorem va_S.grow {H0 H H1 : Heap} {A : Nat → Prop} {locs : List Loc} (h : va_S A H0 H locs) (z : H1.size = H.size + 1) (oq : ∀ q : Nat, q < H.size → H1[q]? = H[q]?) : va_S A H0 H1 locs :=
  ⟨Nat.le_trans h.1 (by omega), fun q h1 h2 => (oq q (Nat.lt_of_lt_of_le h1 h.1)).trans (h.2.1 q h1 h2), h.2.2⟩
theorem wd.top {H : Heap} (hw : wd G h H) : adr G (hpn h) = H.size := by
  obtain ⟨w1, w2, -⟩ := hw
  unfold adr
  rw [if_neg (by omega), w2]
theorem ft_all : ((List.range 13).all fun ci => (List.range (am_nf ci)).all fun k => Nat.blt 0 (am_ft (am_fty ci k))) = true := by decide +kernel
theorem ft_pos {ci k : Nat} (hc : ci < 13) (hk : k < am_nf ci) : 0 < am_ft (am_fty ci k) := by
  have h1 := List.all_eq_true.mp ft_all ci (List.mem_range.mpr hc)
  exact Nat.blt_eq.mp (List.all_eq_true.mp h1 k (List.mem_range.mpr hk))
theorem ft_def {ci k n : Nat} (hc : ci < 13) (hk : k < am_nf ci) : defaultValue (am_fty ci k) = am_fv G (mkC h (10 + ci) n) (hpn h) ci k := by
  have h0 := ft_pos hc hk
  unfold am_fv
  rw [mk_I0, mk_R0]
  cases hf : am_fty ci k <;> rw [hf] at h0 <;> first | rfl | (simp [am_ft] at h0)
theorem kl_w {oc idx ci : Nat} (h : (oc, idx, ci) ∈ am_kl) : Cond.classLink (am_own oc) idx (am_own ci) ∈ gdW := gd_in (map_mem am_kl_ok _ h) rfl
theorem kC_own : ∀ ci, ci < 13 → kC ci = am_own ci := c13 rfl rfl rfl rfl rfl rfl rfl rfl rfl rfl rfl rfl rfl
theorem ib_all : [362, 163, 385, 444, 427, 278, 368, 400, 263, 284, 469, 155, 1231].map (fun i => lw_tbl[i]?) = (List.range 13).map (fun ci => some (Cond.instantiable (kC ci) (am_nf ci))) := by decide +kernel
theorem it_all : [138, 134, 140, 143, 142, 136, 139, 141, 135, 137, 144, 133, 145].map (fun i => lw_tbl[i]?) = (List.range 13).map (fun ci => some (Cond.initialized (kC ci))) := by decide +kernel
theorem ib_w {ci : Nat} (h : ci < 13) : Cond.instantiable (kC ci) (am_nf ci) ∈ gdW := gd_in (map_mem ib_all _ (List.mem_range.mpr h)) rfl
theorem it_w {ci : Nat} (h : ci < 13) : Cond.initialized (kC ci) ∈ gdW := gd_in (map_mem it_all _ (List.mem_range.mpr h)) rfl
theorem s_new {ci idx : Nat} (hd : decode (mBy y) pc = .ok (.new idx, 3)) (hq : (mOc y, idx, ci) ∈ am_kl) (hc : ci < 13) (hV : V l G d y (pc + 3) ls (vR (some (hpn h)) :: st) (mkC h (10 + ci) (am_nf ci)) q) : V l G d y pc ls st h q := by
  refine hV.make fun p e R s m args below meth c H locs cells slots lsM Q hC hw hS hce hsl kk => ?_
  have hKn := hC.2.2.2.2.1.1.1 ci _ (k_at ci hc)
  refine W.newcK hC.1.1 hC.1.2.1 hC.2.2.1 (C := kC ci) (by rw [kC_own ci hc]; exact hC.2.2.2.1 _ (kl_w hq)) (hC.2.2.2.1 _ (ib_w hc)) (hC.2.2.2.1 _ (it_w hc)) rfl hd hce hsl hKn.2.1 hw.top.symm fun H1 kC' hkC e1 z1 o1 => ?_
  have z2 : H1.size = H.size + 1 := by rw [z1, hw.top]
  have o2 : ∀ q : Nat, q < H.size → H1[q]? = H[q]? := fun q hq => o1 q (by rw [hw.top]; exact hq)
  refine kk H1 (hw.new (by omega) z2 o2 ?_) (hS.grow z2 o2)
  rw [toE_obj mk_T0]
  refine ⟨_, k_at ci hc, (u_born (am_fty ci) hC.2.2.2.1 (k_in ci hc) hKn hkC e1 (k_ty ci hc)).to fun j hj => ?_⟩
  rw [ft_def (G := G) (h := h) (n := am_nf ci) hc hj]
  unfold vp_V
  rw [List.getD_eq_getElem?_getD, fs_get hj]
  rfl
theorem mb_i : Cond.arrayClass .int ∈ gdW := gd_in (List.mem_of_getElem? (i := 260) (by decide +kernel)) rfl
theorem mb_j : Cond.arrayClass .long ∈ gdW := gd_in (List.mem_of_getElem? (i := 558) (by decide +kernel)) rfl
theorem mb_b : Cond.arrayClass .byte ∈ gdW := gd_in (List.mem_of_getElem? (i := 855) (by decide +kernel)) rfl
theorem mb_z : Cond.arrayClass .boolean ∈ gdW := gd_in (List.mem_of_getElem? (i := 1408) (by decide +kernel)) rfl
/-- a new row of numbers -/
theorem s_newa {t : Nat} {at_ : ArrayType} {n : Int32} (hd : decode (mBy y) pc = .ok (.newarray at_, 2)) (ht : (at_ = .int ∧ t = 0) ∨ (at_ = .long ∧ t = 1) ∨ (at_ = .byte ∧ t = 2) ∨ (at_ = .boolean ∧ t = 3)) (hn : ¬ n < 0) (hb : n.toNatClampNeg ≤ 1000000) (hV : V l G d y (pc + 2) ls (vR (some (hpn h)) :: st) (mkC h t n.toNatClampNeg) q) : V l G d y pc ls (vI n :: st) h q := by
  refine hV.make fun p e R s m args below meth c H locs cells slots lsM Q hC hw hS hce hsl kk => ?_
  have hty := hC.2.2.2.2.1.1.2
  have key : ∀ (k : Nat) (ty : FieldType), newarray.typeOf at_ = ty → (tyL G)[k]? = some (gC G k, ty) → t = k → (∀ C, ty ≠ .object C) → Cond.arrayClass ty ∈ gdW → componentBytes ty ≤ 8 → toE G (mkC h t n.toNatClampNeg) (hpn h) = .inl (gC G k, n.toNatClampNeg, if ty = .long then .inr (.inl fun _ => 0) else .inl fun _ => 0) → defaultValue ty = (if ty = .long then .long 0 else .int 0) → W p l e R s m args below meth c H locs cells slots Q (F0 m pc lsM ((vI n :: st).map (con G))) := by
    intro k ty e1 e2 e3 e4 e5 e6 e7 e8
    subst e1
    refine va_newaK hC.1.1 hC.1.2.1 (hC.2.2.2.1 _ e5) rfl hd rfl hn rfl (Nat.le_trans (Nat.mul_le_mul hb e6) (Nat.le_of_ble_eq_true rfl)) hce hsl hw.top.symm fun H1 cA r1 z1 o1 r2 r3 => ?_
    have hcA : cA = gC G k := by
      have hra := (hty k _ e2).2
      unfold va_RA at hra
      generalize hg : newarray.typeOf at_ = ty at *
      cases ty <;> first | exact Option.some.inj (r3.symm.trans hra) | exact absurd rfl (e4 _)
    have z2 : H1.size = H.size + 1 := by rw [z1, hw.top]
    have o2 : ∀ q : Nat, q < H.size → H1[q]? = H[q]? := fun q hq => o1 q (by rw [hw.top]; exact hq)
    refine kk H1 (hw.new (by rcases ht with z | z | z | z <;> omega) z2 o2 ?_) (hS.grow z2 o2)
    rw [e7]
    show H1[adr G (hpn h)]? = some (vp_cell _ _)
    rw [r1, hcA, e8]
    by_cases hl : newarray.typeOf at_ = .long
    · rw [if_pos hl, if_pos hl]; rfl
    · rw [if_neg hl, if_neg hl]; rfl
  rcases ht with ⟨rfl, rfl⟩ | ⟨rfl, rfl⟩ | ⟨rfl, rfl⟩ | ⟨rfl, rfl⟩
  · exact key 0 .int rfl rfl rfl (fun C z => by cases z) mb_i (by decide) (by rw [toE_0 mk_T0, mk_L0, mk_I0]; rfl) rfl
  · exact key 1 .long rfl rfl rfl (fun C z => by cases z) mb_j (by decide) (by rw [toE_1 mk_T0, mk_L0, mk_J0]; rfl) rfl
  · exact key 2 .byte rfl rfl rfl (fun C z => by cases z) mb_b (by decide) (by rw [toE_2 mk_T0, mk_L0, mk_I0]; rfl) rfl
  · exact key 3 .boolean rfl rfl rfl (fun C z => by cases z) mb_z (by decide) (by rw [toE_3 mk_T0, mk_L0, mk_I0]; rfl) rfl
theorem s_newq {t ci idx : Nat} {n : Int32} (hd : decode (mBy y) pc = .ok (.anewarray idx, 3)) (hq : (mOc y, idx, ci) ∈ am_kl) (ht : (ci = 9 ∧ t = 4) ∨ (ci = 1 ∧ t = 5)) (hn : ¬ n < 0) (hb : n.toNatClampNeg ≤ 1000000) (hV : V l G d y (pc + 3) ls (vR (some (hpn h)) :: st) (mkC h t n.toNatClampNeg) q) : V l G d y pc ls (vI n :: st) h q := by
  refine hV.make fun p e R s m args below meth c H locs cells slots lsM Q hC hw hS hce hsl kk => ?_
  have hty := hC.2.2.2.2.1.1.2
  have key : ∀ (k : Nat) (C : String), am_own ci = C → (tyL G)[k]? = some (gC G k, .object C) → va_AO C s → toE G (mkC h t n.toNatClampNeg) (hpn h) = .inl (gC G k, n.toNatClampNeg, .inr (.inr (.inr (.inr fun _ => none)))) → W p l e R s m args below meth c H locs cells slots Q (F0 m pc lsM ((vI n :: st).map (con G))) := by
    intro k C e1 e2 e3 e4
    refine W.anew hC.1.1 hC.1.2.1 hC.2.2.1 (C := C) (by rw [← e1]; exact hC.2.2.2.1 _ (kl_w hq)) (va_AO.use e3) rfl hd rfl hn (Nat.le_trans (Nat.mul_le_mul_right 4 hb) (Nat.le_of_ble_eq_true rfl)) hce hsl fun cA kA comp f1 f2 f3 f4 => ?_
    generalize hH1 : H.push ({ cls := cA, slots := Array.replicate n.toNatClampNeg .null, vm := .none } : Cell) = H1
    have z2 : H1.size = H.size + 1 := by rw [← hH1, Array.size_push]
    have r1 : H1[H.size]? = some (arrV cA n.toNatClampNeg (fun _ => .null)) := by rw [← hH1, Array.getElem?_push_size, ← arrV_new]
    have o2 : ∀ q : Nat, q < H.size → H1[q]? = H[q]? := fun q hq => by rw [← hH1, Array.getElem?_push, if_neg (Nat.ne_of_lt hq)]
    have hcA : cA = gC G k := by
      obtain ⟨_, _, -, -, -, r4⟩ := (hty k _ e2).2
      exact Option.some.inj (f1.symm.trans r4)
    have hk := kk H1 (hw.new (by rcases ht with z | z <;> omega) z2 o2 (by
      rw [e4]
      show H1[adr G (hpn h)]? = some (vp_cell _ _)
      rw [hw.top, r1, hcA]
      rfl)) (hS.grow z2 o2)
    have ha : con G (vR (some (hpn h))) = .ref H.size := by show Value.ref (adr G (hpn h)) = _; rw [hw.top]
    rw [List.map_cons, ha] at hk
    exact hk
  rcases ht with ⟨rfl, rfl⟩ | ⟨rfl, rfl⟩
  · exact key 4 _ rfl rfl hC.2.2.2.2.1.2.2.2.2.1.1 (by rw [toE_4 mk_T0, mk_L0, mk_R0]; rfl)
  · exact key 5 _ rfl rfl hC.2.2.2.2.1.2.2.2.2.1.2 (by rw [toE_5 mk_T0, mk_L0, mk_R0]; rfl)
end P8
