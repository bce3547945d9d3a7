/-! Arrays, statics, constants, makings, ends -/
section P7
variable {l : Launch} {G : EG} {d y pc pc' : Nat} {ls ls' : AL} {st st' : List AV} {h h' : AH} {q : RR}
theorem ty_0 (G : EG) : (tyL G)[0]? = some (gC G 0, .int) := rfl
theorem ty_1 (G : EG) : (tyL G)[1]? = some (gC G 1, .long) := rfl
theorem ty_2 (G : EG) : (tyL G)[2]? = some (gC G 2, .byte) := rfl
theorem ty_3 (G : EG) : (tyL G)[3]? = some (gC G 3, .boolean) := rfl
theorem ty_4 (G : EG) : (tyL G)[4]? = some (gC G 4, .object "TownSundays$Text") := rfl
theorem ty_5 (G : EG) : (tyL G)[5]? = some (gC G 5, .object "TownSundays$Land") := rfl
/-- an int row that was there before: the script, the bounds -/
theorem wd.old {H : Heap} {s : State} {a : Nat} (hw : wd G h H) (hK : Kw G s) (ht : hpT h a = 0) (ha : a < 3) : vaY (adr G a) (hpL h a) (hpI h a) s H := by
  obtain ⟨-, -, -, w4, w5, -⟩ := hw
  obtain ⟨-, ⟨x0, x1, l0, l1, -, -, n1, t2⟩, -⟩ := hK
  obtain ⟨o1, o2, o3⟩ := w5 a ha
  have hI : hpI h a = hpI (g0 G) a := funext o3
  rw [o2, hI]
  match a, ha with
  | 0, _ => exact x0.kept (w4 _ l0)
  | 1, _ => rw [n1]; exact x1.kept (w4 _ l1)
  | 2, _ => rw [t2] at o1; rw [ht] at o1; cases o1
theorem s_iald {a : Nat} {i : Int32} (hd : decode (mBy y) pc = .ok (.iaload, 1)) (ht : hpT h a = 0) (hi : ¬ (i < 0 ∨ hpL h a ≤ i.toNatClampNeg)) (hV : V l G d y (pc + 1) ls (vI (hpI h a i.toNatClampNeg) :: st) h q) : V l G d y pc ls (vI i :: vR (some a) :: st) h q := hV.pure fun p e R s m args below meth c H locs cells slots lsM Q hC hw hS hl kk => by
  rcases Nat.lt_or_ge a 3 with h3 | h3
  · obtain ⟨scr, x1, x2, x3, x4, x5⟩ := hw.old hC.2.2.2.2.1 ht h3
    have hlt : i.toNatClampNeg < hpL h a := Nat.not_le.mp fun z => hi (Or.inr z)
    exact W.iald hC.1.1 hC.1.2.1 x1 x2 x3 (fun z => z.elim (fun z => hi (Or.inl z)) (fun z => absurd hlt (Nat.not_lt.mpr (Nat.le_trans x4.1 z)))) (x5 _ hlt) rfl rfl hd (kk lsM hl)
  · have hat := hw.2.2.1 a h3 (hw.lt ht (by decide))
    rw [toE_0 ht] at hat
    exact va_iald hC.1.1 hC.1.2.1 hC.2.2.2.2.1.1 (va_one hat) 0 0 rfl (ty_0 G) hi hd (kk lsM hl)
theorem s_bald {a : Nat} {i : Int32} (hd : decode (mBy y) pc = .ok (.baload, 1)) (ht : hpT h a = 2 ∨ hpT h a = 3) (hi : ¬ (i < 0 ∨ hpL h a ≤ i.toNatClampNeg)) (hV : V l G d y (pc + 1) ls (vI (hpI h a i.toNatClampNeg) :: st) h q) : V l G d y pc ls (vI i :: vR (some a) :: st) h q := hV.pure fun p e R s m args below meth c H locs cells slots lsM Q hC hw hS hl kk => by
  rcases ht with ht | ht
  · obtain ⟨h3, hn⟩ := hw.tag hC.2.2.2.2.1 ht (by decide) (by decide)
    have hat := hw.2.2.1 a h3 hn
    rw [toE_2 ht] at hat
    exact va_bald hC.1.1 hC.1.2.1 hC.2.2.2.2.1.1 (va_one hat) 0 2 rfl (ty_2 G) hi hd (kk lsM hl)
  · obtain ⟨h3, hn⟩ := hw.tag hC.2.2.2.2.1 ht (by decide) (by decide)
    have hat := hw.2.2.1 a h3 hn
    rw [toE_3 ht] at hat
    exact va_zald hC.1.1 hC.1.2.1 hC.2.2.2.2.1.1 (va_one hat) 0 3 rfl (ty_3 G) hi hd (kk lsM hl)
theorem s_lald {a : Nat} {i : Int32} (hd : decode (mBy y) pc = .ok (.laload, 1)) (ht : hpT h a = 1) (hi : ¬ (i < 0 ∨ hpL h a ≤ i.toNatClampNeg)) (hV : V l G d y (pc + 1) ls (vJ (hpJ h a i.toNatClampNeg) :: st) h q) : V l G d y pc ls (vI i :: vR (some a) :: st) h q := hV.pure fun p e R s m args below meth c H locs cells slots lsM Q hC hw hS hl kk => by
  obtain ⟨h3, hn⟩ := hw.tag hC.2.2.2.2.1 ht (by decide) (by decide)
  have hat := hw.2.2.1 a h3 hn
  rw [toE_1 ht] at hat
  exact va_lald hC.1.1 hC.1.2.1 hC.2.2.2.2.1.1 (va_one hat) 0 1 rfl (ty_1 G) hi hd (kk lsM hl)
theorem s_aald {a : Nat} {i : Int32} (hd : decode (mBy y) pc = .ok (.aaload, 1)) (ht : hpT h a = 4 ∨ hpT h a = 5) (hi : ¬ (i < 0 ∨ hpL h a ≤ i.toNatClampNeg)) (hV : V l G d y (pc + 1) ls (vR (hpR h a i.toNatClampNeg) :: st) h q) : V l G d y pc ls (vI i :: vR (some a) :: st) h q := hV.pure fun p e R s m args below meth c H locs cells slots lsM Q hC hw hS hl kk => by
  have hkk := kk lsM hl
  rw [List.map_cons, con_R] at hkk
  rcases ht with ht | ht
  · obtain ⟨h3, hn⟩ := hw.tag hC.2.2.2.2.1 ht (by decide) (by decide)
    have hat := hw.2.2.1 a h3 hn
    rw [toE_4 ht] at hat
    exact va_aldq hC.1.1 hC.1.2.1 hC.2.2.2.2.1.1 (va_one hat) 0 4 rfl (ty_4 G) hi hd hkk
  · obtain ⟨h3, hn⟩ := hw.tag hC.2.2.2.2.1 ht (by decide) (by decide)
    have hat := hw.2.2.1 a h3 hn
    rw [toE_5 ht] at hat
    exact va_aldq hC.1.1 hC.1.2.1 hC.2.2.2.2.1.1 (va_one hat) 0 5 rfl (ty_5 G) hi hd hkk
theorem s_iast {a : Nat} {i x : Int32} (hd : decode (mBy y) pc = .ok (.iastore, 1)) (ht : hpT h a = 0) (h3 : 3 ≤ a) (hi : ¬ (i < 0 ∨ hpL h a ≤ i.toNatClampNeg)) (hV : V l G d y (pc + 1) ls st (wrI h a i.toNatClampNeg x) q) : V l G d y pc ls (vI x :: vI i :: vR (some a) :: st) h q := by
  refine hV.heap (Same.I h a _ x) fun p e R s m args below meth c H locs cells slots lsM Q hC hw hS hz kk => ?_
  have hat := hw.2.2.1 a h3 (hw.lt ht (by decide))
  rw [toE_0 ht] at hat
  refine aw_iast hC.1.1 hC.1.2.1 hC.2.2.2.2.1.1 0 hat (ty_0 G) hi hd fun H1 k e1 e2 e3 => kk H1 _ (hw.put h3 (Same.I h a _ x) (fun b hb => ⟨I_ne hb, rfl, rfl⟩) ?_ e2 e3) (hS.put e2 e3 (adr_in h3))
  rw [toE_0 (h := wrI h a i.toNatClampNeg x) ht]
  have hf : upd (hpI h a) i.toNatClampNeg x = hpI (wrI h a i.toNatClampNeg x) a := by funext j; rw [I_at]; rfl
  rw [hf] at e1
  exact e1
theorem s_bast {a : Nat} {i x : Int32} (hd : decode (mBy y) pc = .ok (.bastore, 1)) (ht : hpT h a = 2) (hi : ¬ (i < 0 ∨ hpL h a ≤ i.toNatClampNeg)) (hV : V l G d y (pc + 1) ls st (wrI h a i.toNatClampNeg (vp_nar .byte x)) q) : V l G d y pc ls (vI x :: vI i :: vR (some a) :: st) h q := by
  refine hV.heap (Same.I h a _ _) fun p e R s m args below meth c H locs cells slots lsM Q hC hw hS hz kk => ?_
  obtain ⟨h3, hn⟩ := hw.tag hC.2.2.2.2.1 ht (by decide) (by decide)
  have hat := hw.2.2.1 a h3 hn
  rw [toE_2 ht] at hat
  refine aw_bast hC.1.1 hC.1.2.1 hC.2.2.2.2.1.1 2 hat (ty_2 G) hi hd fun H1 k e1 e2 e3 => kk H1 _ (hw.put h3 (Same.I h a _ _) (fun b hb => ⟨I_ne hb, rfl, rfl⟩) ?_ e2 e3) (hS.put e2 e3 (adr_in h3))
  rw [toE_2 (h := wrI h a i.toNatClampNeg (vp_nar .byte x)) ht]
  have hf : upd (hpI h a) i.toNatClampNeg (vp_nar .byte x) = hpI (wrI h a i.toNatClampNeg (vp_nar .byte x)) a := by funext j; rw [I_at]; rfl
  rw [hf] at e1
  exact e1
theorem s_zast {a : Nat} {i x : Int32} (hd : decode (mBy y) pc = .ok (.bastore, 1)) (ht : hpT h a = 3) (hi : ¬ (i < 0 ∨ hpL h a ≤ i.toNatClampNeg)) (hV : V l G d y (pc + 1) ls st (wrI h a i.toNatClampNeg (vp_nar .boolean x)) q) : V l G d y pc ls (vI x :: vI i :: vR (some a) :: st) h q := by
  refine hV.heap (Same.I h a _ _) fun p e R s m args below meth c H locs cells slots lsM Q hC hw hS hz kk => ?_
  obtain ⟨h3, hn⟩ := hw.tag hC.2.2.2.2.1 ht (by decide) (by decide)
  have hat := hw.2.2.1 a h3 hn
  rw [toE_3 ht] at hat
  refine aw_zast hC.1.1 hC.1.2.1 hC.2.2.2.2.1.1 3 hat (ty_3 G) hi hd fun H1 k e1 e2 e3 => kk H1 _ (hw.put h3 (Same.I h a _ _) (fun b hb => ⟨I_ne hb, rfl, rfl⟩) ?_ e2 e3) (hS.put e2 e3 (adr_in h3))
  rw [toE_3 (h := wrI h a i.toNatClampNeg (vp_nar .boolean x)) ht]
  have hf : upd (hpI h a) i.toNatClampNeg (vp_nar .boolean x) = hpI (wrI h a i.toNatClampNeg (vp_nar .boolean x)) a := by funext j; rw [I_at]; rfl
  rw [hf] at e1
  exact e1
theorem s_last {a : Nat} {i : Int32} {x : Int64} (hd : decode (mBy y) pc = .ok (.lastore, 1)) (ht : hpT h a = 1) (hi : ¬ (i < 0 ∨ hpL h a ≤ i.toNatClampNeg)) (hV : V l G d y (pc + 1) ls st (wrJ h a i.toNatClampNeg x) q) : V l G d y pc ls (vJ x :: vI i :: vR (some a) :: st) h q := by
  refine hV.heap (Same.J h a _ _) fun p e R s m args below meth c H locs cells slots lsM Q hC hw hS hz kk => ?_
  obtain ⟨h3, hn⟩ := hw.tag hC.2.2.2.2.1 ht (by decide) (by decide)
  have hat := hw.2.2.1 a h3 hn
  rw [toE_1 ht] at hat
  refine aw_last hC.1.1 hC.1.2.1 hC.2.2.2.2.1.1 1 hat (ty_1 G) hi hd fun H1 k e1 e2 e3 => kk H1 _ (hw.put h3 (Same.J h a _ _) (fun b hb => ⟨rfl, J_ne hb, rfl⟩) ?_ e2 e3) (hS.put e2 e3 (adr_in h3))
  rw [toE_1 (h := wrJ h a i.toNatClampNeg x) ht]
  have hf : vp_updL (hpJ h a) i.toNatClampNeg x = hpJ (wrJ h a i.toNatClampNeg x) a := by funext j; rw [J_at]; rfl
  rw [hf] at e1
  exact e1
theorem up_R {a i : Nat} {x : Option Nat} : va_up (fun j => (hpR h a j).map (adr G)) i (x.map (adr G)) = fun j => (hpR (wrR h a i x) a j).map (adr G) := by
  funext j
  rw [R_at]
  unfold va_up
  split <;> rfl
theorem s_aast0 {a : Nat} {i : Int32} (hd : decode (mBy y) pc = .ok (.aastore, 1)) (ht : hpT h a = 4 ∨ hpT h a = 5) (hi : ¬ (i < 0 ∨ hpL h a ≤ i.toNatClampNeg)) (hV : V l G d y (pc + 1) ls st (wrR h a i.toNatClampNeg none) q) : V l G d y pc ls (vR none :: vI i :: vR (some a) :: st) h q := by
  refine hV.heap (Same.R h a _ _) fun p e R s m args below meth c H locs cells slots lsM Q hC hw hS hz kk => ?_
  rcases ht with ht | ht
  · obtain ⟨h3, hn⟩ := hw.tag hC.2.2.2.2.1 ht (by decide) (by decide)
    have hat := hw.2.2.1 a h3 hn
    rw [toE_4 ht] at hat
    refine aw_rastN hC.1.1 hC.1.2.1 hC.2.2.2.2.1.1 4 hat (ty_4 G) hi hd fun H1 k e1 e2 e3 => kk H1 _ (hw.put h3 (Same.R h a _ _) (fun b hb => ⟨rfl, rfl, R_ne hb⟩) ?_ e2 e3) (hS.put e2 e3 (adr_in h3))
    rw [toE_4 (h := wrR h a i.toNatClampNeg none) ht, ← up_R]
    exact e1
  · obtain ⟨h3, hn⟩ := hw.tag hC.2.2.2.2.1 ht (by decide) (by decide)
    have hat := hw.2.2.1 a h3 hn
    rw [toE_5 ht] at hat
    refine aw_rastN hC.1.1 hC.1.2.1 hC.2.2.2.2.1.1 5 hat (ty_5 G) hi hd fun H1 k e1 e2 e3 => kk H1 _ (hw.put h3 (Same.R h a _ _) (fun b hb => ⟨rfl, rfl, R_ne hb⟩) ?_ e2 e3) (hS.put e2 e3 (adr_in h3))
    rw [toE_5 (h := wrR h a i.toNatClampNeg none) ht, ← up_R]
    exact e1
theorem s_aast1 {a v : Nat} {i : Int32} (hd : decode (mBy y) pc = .ok (.aastore, 1)) (ht : (hpT h a = 4 ∧ hpT h v = 19) ∨ (hpT h a = 5 ∧ hpT h v = 11)) (hi : ¬ (i < 0 ∨ hpL h a ≤ i.toNatClampNeg)) (hV : V l G d y (pc + 1) ls st (wrR h a i.toNatClampNeg (some v)) q) : V l G d y pc ls (vR (some v) :: vI i :: vR (some a) :: st) h q := by
  refine hV.heap (Same.R h a _ _) fun p e R s m args below meth c H locs cells slots lsM Q hC hw hS hz kk => ?_
  rcases ht with ⟨ht, hv⟩ | ⟨ht, hv⟩
  · obtain ⟨h3, hn⟩ := hw.tag hC.2.2.2.2.1 ht (by decide) (by decide)
    have hat := hw.2.2.1 a h3 hn
    rw [toE_4 ht] at hat
    obtain ⟨v3, vn⟩ := hw.tag hC.2.2.2.2.1 hv (by decide) (by decide)
    have hvt := hw.2.2.1 v v3 vn
    rw [toE_obj (ci := 9) hv] at hvt
    refine aw_rast hC.1.1 hC.1.2.1 hC.2.2.2.2.1.1 4 9 hat (ty_4 G) hvt (k_at 9 (by decide)) hi hd fun H1 k e1 e2 e3 => kk H1 _ (hw.put h3 (Same.R h a _ _) (fun b hb => ⟨rfl, rfl, R_ne hb⟩) ?_ e2 e3) (hS.put e2 e3 (adr_in h3))
    rw [toE_4 (h := wrR h a i.toNatClampNeg (some v)) ht, ← up_R]
    exact e1
  · obtain ⟨h3, hn⟩ := hw.tag hC.2.2.2.2.1 ht (by decide) (by decide)
    have hat := hw.2.2.1 a h3 hn
    rw [toE_5 ht] at hat
    obtain ⟨v3, vn⟩ := hw.tag hC.2.2.2.2.1 hv (by decide) (by decide)
    have hvt := hw.2.2.1 v v3 vn
    rw [toE_obj (ci := 1) hv] at hvt
    refine aw_rast hC.1.1 hC.1.2.1 hC.2.2.2.2.1.1 5 1 hat (ty_5 G) hvt (k_at 1 (by decide)) hi hd fun H1 k e1 e2 e3 => kk H1 _ (hw.put h3 (Same.R h a _ _) (fun b hb => ⟨rfl, rfl, R_ne hb⟩) ?_ e2 e3) (hS.put e2 e3 (adr_in h3))
    rw [toE_5 (h := wrR h a i.toNatClampNeg (some v)) ht, ← up_R]
    exact e1
theorem s_alen {a : Nat} (hd : decode (mBy y) pc = .ok (.arraylength, 1)) (ht : hpT h a < 6) (hV : V l G d y (pc + 1) ls (vI (Int32.ofNat (hpL h a)) :: st) h q) : V l G d y pc ls (vR (some a) :: st) h q := hV.pure fun p e R s m args below meth c H locs cells slots lsM Q hC hw hS hl kk => by
  by_cases h0 : hpT h a = 0 ∧ a < 3
  · obtain ⟨scr, x1, x2, x3, x4, x5⟩ := hw.old hC.2.2.2.2.1 h0.1 h0.2
    exact W.alen hC.1.1 hC.1.2.1 x1 x2 (n := Int32.ofNat (hpL h a)) x4.2 rfl rfl hd (kk lsM hl)
  · have h3 : 3 ≤ a ∧ a < hpn h := by
      by_cases hz : hpT h a = 0
      · exact ⟨Nat.not_lt.mp fun z => h0 ⟨hz, z⟩, hw.lt hz (by decide)⟩
      · exact hw.tag hC.2.2.2.2.1 rfl (by omega) hz
    have hat := hw.2.2.1 a h3.1 h3.2
    rcases (show hpT h a = 0 ∨ hpT h a = 1 ∨ hpT h a = 2 ∨ hpT h a = 3 ∨ hpT h a = 4 ∨ hpT h a = 5 by omega) with e | e | e | e | e | e
    · rw [toE_0 e] at hat
      exact va_alen hC.1.1 hC.1.2.1 hC.2.2.2.2.1.1 (va_one hat) 0 0 rfl (ty_0 G) rfl hd (kk lsM hl)
    · rw [toE_1 e] at hat
      exact va_alen hC.1.1 hC.1.2.1 hC.2.2.2.2.1.1 (va_one hat) 0 1 rfl (ty_1 G) rfl hd (kk lsM hl)
    · rw [toE_2 e] at hat
      exact va_alen hC.1.1 hC.1.2.1 hC.2.2.2.2.1.1 (va_one hat) 0 2 rfl (ty_2 G) rfl hd (kk lsM hl)
    · rw [toE_3 e] at hat
      exact va_alen hC.1.1 hC.1.2.1 hC.2.2.2.2.1.1 (va_one hat) 0 3 rfl (ty_3 G) rfl hd (kk lsM hl)
    · rw [toE_4 e] at hat
      exact va_alen hC.1.1 hC.1.2.1 hC.2.2.2.2.1.1 (va_one hat) 0 4 rfl (ty_4 G) rfl hd (kk lsM hl)
    · rw [toE_5 e] at hat
      exact va_alen hC.1.1 hC.1.2.1 hC.2.2.2.2.1.1 (va_one hat) 0 5 rfl (ty_5 G) rfl hd (kk lsM hl)
theorem s_ldcI {idx : Nat} {v : Int} (hd : decode (mBy y) pc = .ok (.ldc idx, 2)) (hq : (mOc y, idx, v) ∈ am_ci) (hV : V l G d y (pc + 2) ls (vI (Int32.ofInt v) :: st) h q) : V l G d y pc ls st h q := hV.pure fun p e R s m args below meth c H locs cells slots lsM Q hC hw hS hl kk => lv_ldc hC.1.1 hC.1.2.1 hC.2.2.1 (hC.2.2.2.1 _ (gd_in (map_mem am_ci_ok _ hq) rfl)) hd (kk lsM hl)
theorem s_ldcW {idx : Nat} {v : Int} (hd : decode (mBy y) pc = .ok (.ldc_w idx, 3)) (hq : (mOc y, idx, v) ∈ am_ci) (hV : V l G d y (pc + 3) ls (vI (Int32.ofInt v) :: st) h q) : V l G d y pc ls st h q := hV.pure fun p e R s m args below meth c H locs cells slots lsM Q hC hw hS hl kk => lv_ldcw hC.1.1 hC.1.2.1 hC.2.2.1 (hC.2.2.2.1 _ (gd_in (map_mem am_ci_ok _ hq) rfl)) hd (kk lsM hl)
theorem s_ldcJ {idx : Nat} {v : Int} (hd : decode (mBy y) pc = .ok (.ldc2_w idx, 3)) (hq : (mOc y, idx, v) ∈ am_cj) (hV : V l G d y (pc + 3) ls (vJ (Int64.ofInt v) :: st) h q) : V l G d y pc ls st h q := hV.pure fun p e R s m args below meth c H locs cells slots lsM Q hC hw hS hl kk => lv_ldc2 hC.1.1 hC.1.2.1 hC.2.2.1 (hC.2.2.2.1 _ (gd_in (map_mem am_cj_ok _ hq) rfl)) hd (kk lsM hl)
theorem s_ldcS (hy : mOc y = 5) (hd : decode (mBy y) pc = .ok (.ldc 78, 2)) (hV : V l G d y (pc + 2) ls (vR (some 2) :: st) h q) : V l G d y pc ls st h q := hV.pure fun p e R s m args below meth c H locs cells slots lsM Q hC hw hS hl kk => va_ldcS hC.1.1 hC.1.2.1 (own := "TownSundays$Reader") (by have := hC.2.2.1; rw [hy] at this; exact this) hC.2.2.2.2.1.2.2.2.2.2.1 hd (kk lsM hl)
end P7
