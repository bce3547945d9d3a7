/-! Calls -/
section P11
variable {l : Launch} {G : EG} {d y pc pc' : Nat} {ls ls' : AL} {st st' : List AV} {h h' : AH} {q : RR}
def rst (k : Nat) (r : RV) : List AV := match am_rt k with
  | 0 => []
  | 2 => [vJ r.2.1]
  | 3 => [vR r.2.2]
  | _ => [vI r.1]
theorem rst_out (G : EG) (k : Nat) (r : RV) : (rOut G k r).toList = (rst k r).map (con G) := by
  unfold rOut rst
  generalize am_rt k = n
  match n with
  | 0 => rfl
  | 1 => rfl
  | 2 => rfl
  | 3 => rfl
  | _ + 4 => rfl
theorem cat_le (v : Value) : v.category ≤ 2 := by cases v <;> simp [Value.category]
theorem low_sum (G : EG) : ∀ (st : List AV), (((st.map (con G)).map fun v => v.category).sum) ≤ 2 * st.length
  | [] => by simp
  | v :: t => by
    have h1 := low_sum G t
    have h2 := cat_le (con G v)
    simp only [List.map_cons, List.sum_cons, List.length_cons]
    omega
theorem low_8 {G : EG} {st : List AV} (h : am_low st = true) : (((st.map (con G)).map fun v => v.category).sum) ≤ 8 := by
  have h1 := low_sum G st
  have h2 : st.length ≤ 4 := Nat.le_of_ble_eq_true h
  omega
theorem V.call {k : Nat} {q1 : RR} {stk : List AV} {av : Array Value} (hx : Ext h q1.2) (hV : V l G d y (pc + 3) ls (rst k q1.1 ++ st) q1.2 q)
    (hr : ∀ (p : Program) (e : Env) (R : Room) (s : State) (m : MethodId) (args : Array Value) (below : List Frame) (meth : Method) (c : Code) (H : Heap) (locs : List Loc) (cells slots : Nat) (lsM : Array Slot),
      CX G d y p R s m args meth c → wd G h H → va_S (nwq G) s.heap H locs → lvh G lsM (mMl y) ls → cells + (hpn q1.2 - hpn h) ≤ R.cells → slots + (hps q1.2 - hps h) ≤ R.slots →
      va_Run p l e R s m args below meth c H locs cells slots (hpn q1.2 - hpn h) (hps q1.2 - hps h) (F0 m pc lsM (stk.map (con G))) (st.map (con G)) (am_Q G k q1 av) (nwq G)) : V l G d y pc ls stk h q := by
  refine ⟨hx.tr hV.1, ?_⟩
  intro p e R s m args below meth c H locs cells slots lsM mc ms hC h1 h2 h3 h4 hz h5 h6 h7
  have n1 := hx.1
  have n2 := hx.2.1
  have n3 := hV.1.1
  have n4 := hV.1.2.1
  intro T hT X
  obtain ⟨v, st₀, t, T', L, h0, X', hL, e1, e2, ⟨hq1, hq2, hq3⟩, hst⟩ := hr p e R s m args below meth c H locs cells slots lsM hC h5 h6 h7 (by omega) (by omega) T hT X
  cases hq1
  have hw1 : wd G q1.2 T'.heap := by rw [e1]; exact hq2
  have s1 := h5.2.1
  have s2 := h5.1
  have s3 := hw1.2.1
  have s4 := h6.1
  have key := hV.2 p e R s m args below meth c T'.heap (locs ++ L) (cells + (hpn q1.2 - hpn h)) (slots + (hps q1.2 - hps h)) lsM mc ms hC h1 h2 (by omega) (by omega) (by omega) hw1
    ⟨by omega, fun x hx1 hx2 => (hw1.2.2.2.1 x (Nat.not_le.mp hx2)).trans (hC.2.2.2.2.2.1.2 x (Nat.not_le.mp hx2)).symm, fun x hx1 => (List.mem_append.mp hx1).elim (h6.2.2 x) (hL x)⟩ h7 T' rfl X'
  obtain ⟨t2, a1, b1⟩ := key
  rw [List.map_append, ← rst_out] at a1
  exact ⟨t2, hst t2 a1, b1⟩
theorem gd_good {w : Cond} (h : w ∈ gdW) : w ∈ gdW ∧ ((w.onTables && w.keeps) = true ∨ ∃ ty, w = .arrayClass ty) := ⟨h, good_of_word (List.mem_filter.mp h).2⟩
theorem mc_np {k : Nat} (h : mOk k) : (mNm k).cls ≠ "java/lang/invoke/MethodHandle" ∧ (mNm k).cls ≠ "java/lang/invoke/VarHandle" ∧ (parseMethodDescriptor (mNm k).desc).map (fun dd => dd.parameters.length) = some (am_np k) := by
  have hm := h.2.2.2.2
  unfold am_mc at hm
  simp only [Bool.and_eq_true, decide_eq_true_eq] at hm
  exact ⟨hm.1.1.1.1.1.2, hm.1.1.1.1.2, hm.1.1.1.2⟩
theorem mc_cls {k : Nat} (h : mOk k) : (mNm k).cls = am_own (mOc k) ∧ plainName (mNm k).cls = true ∧ mMl k + 19 ≤ 64 := by
  have hm := h.2.2.2.2
  unfold am_mc at hm
  simp only [Bool.and_eq_true, decide_eq_true_eq] at hm
  exact ⟨hm.1.1.2, hm.1.2, Nat.le_of_ble_eq_true hm.2⟩
theorem mc_init {k : Nat} (h : mOk k) (hk : mKd k = 2) : (mNm k).name = "<init>" := by
  have hm := h.2.2.2.2
  unfold am_mc at hm
  rw [hk] at hm
  simp only [Bool.and_eq_true, decide_eq_true_eq] at hm
  exact hm.1.1.1.1.1.1
theorem blind {as : List AV} : FrameBlind (va_Pc (as.map (con G)) (fun U => wd G h U.heap ∧ Kw G U)) := fun a U g mk hP => ⟨hP.1, hP.2.1, Kw.same rfl hP.2.2⟩
theorem gi_code {k : Nat} (h : mOk k) : ∀ w ∈ Cond.code (mNm k) (mBy k) (mMl k) (mRt k) :: gdW, w ∈ gdW := fun w hw => (List.mem_cons.mp hw).elim (fun e => e ▸ h.1) id
theorem ml_w {oc idx k : Nat} (h : (oc, idx, k) ∈ am_ml) : Cond.methodLink (am_own oc) idx (mNm k) ∈ gdW := gd_in (map_mem am_ml_ok _ h) rfl
theorem room_ok {k d' : Nat} {R : Room} (h : mOk k) (hd : d' + 1 ≤ d) (h1 : d ≤ R.frames) (h2 : 64 * d ≤ R.locals) : d' + 1 ≤ R.frames ∧ 8 + (mMl k + 11) + 64 * d' ≤ R.locals := by
  have := (mc_cls h).2.2
  omega
theorem s_invV {k d' idx a : Nat} {as : List AV} {q1 : RR} (hd : decode (mBy y) pc = .ok (.invokevirtual idx, 3)) (hl : (mOc y, idx, k) ∈ am_ml) (hk : mOk k) (hkd : mKd k = 0) (hoc : mOc k < 13) (ht : hpT h a = 10 + mOc k) (hn : as.length = am_np k) (hlow : am_low st = true) (hdd : d' + 1 ≤ d) (hS : Sd l G d' k (vR (some a) :: as) h q1) (hV : V l G d y (pc + 3) ls (rst k q1.1 ++ st) q1.2 q) : V l G d y pc ls (as.reverse ++ vR (some a) :: st) h q := by
  refine V.call (av := (Value.ref (adr G a) :: as.map (con G)).toArray) hS.1 hV fun p e R s m args below meth c H locs cells slots lsM hC hw hSv hlv h1 h2 => ?_
  obtain ⟨h3, hnn⟩ := hw.tag hC.2.2.2.2.1 ht (by omega) (by omega)
  have hat := hw.2.2.1 a h3 hnn
  rw [toE_obj ht] at hat
  have hrecv := va_recv hC.2.2.2.2.1.1 (va_one hat) (k_at _ hoc) (q0 := 0) rfl
  have hcl : kC (mOc k) = (mNm k).cls := (kC_own _ hoc).trans (mc_cls hk).1.symm
  rw [hcl] at hrecv
  have w2 : Cond.instanceMethod (mNm k) ∈ gdW := by have := hk.2.1; unfold am_w2 at this; rw [hkd] at this; exact this
  have w3 : Cond.selects (mNm k).cls (mNm k) (mNm k) ∈ gdW := by have := hk.2.2.1; unfold am_w3 at this; rw [hkd] at this; exact this
  refine va_runV (Ts := gdW) (As := as.map (con G)) ⟨hC.1.1, hC.1.2.1, hC.1.2.2, hC.2.2.1, hC.2.2.2.1⟩ hS.2 (cwV (C := (mNm k).cls) (am_np k) hC.2.2.2.1 (fun w hw => gd_good ?_) rfl rfl rfl ⟨rfl, mc_np hk⟩ (room_ok hk hdd hC.2.2.2.2.2.2.1 hC.2.2.2.2.2.2.2)) ⟨blind, hrecv, fun U hU hW => ⟨rfl, by rw [hU]; exact hw, hC.2.2.2.2.1.warm hW⟩⟩ rfl (by rw [List.length_map]; exact hn) hlv.1 ?_ ?_ hd ⟨h1, h2⟩
  · unfold wsV at hw
    rcases List.mem_append.mp hw with hw | hw
    · simp only [List.mem_cons, List.not_mem_nil, or_false] at hw
      rcases hw with rfl | rfl | rfl | rfl
      · exact ml_w hl
      · exact w2
      · exact w3
      · exact hk.2.2.2.1
    · exact gi_code hk w hw
  · show (as.reverse ++ vR (some a) :: st).map (con G) = _
    rw [List.map_append, List.map_reverse]
    rfl
  · show 2 * 0 + _ ≤ 8
    have := low_8 (G := G) hlow
    omega
theorem s_invS {k d' idx : Nat} {as : List AV} {q1 : RR} (hd : decode (mBy y) pc = .ok (.invokestatic idx, 3)) (hl : (mOc y, idx, k) ∈ am_ml) (hk : mOk k) (hkd : mKd k = 1) (hn : as.length = am_np k) (hlow : am_low st = true) (hdd : d' + 1 ≤ d) (hS : Sd l G d' k as h q1) (hV : V l G d y (pc + 3) ls (rst k q1.1 ++ st) q1.2 q) : V l G d y pc ls (as.reverse ++ st) h q := by
  refine V.call (av := (as.map (con G)).toArray) hS.1 hV fun p e R s m args below meth c H locs cells slots lsM hC hw hSv hlv h1 h2 => ?_
  have w2 : Cond.static (mNm k) ∈ gdW := by have := hk.2.1; unfold am_w2 at this; rw [hkd] at this; exact this
  refine va_runS (Ts := gdW) (As := as.map (con G)) ⟨hC.1.1, hC.1.2.1, hC.1.2.2, hC.2.2.1, hC.2.2.2.1⟩ hS.2 (va_cwS (am_np k) hC.2.2.2.1 (fun w hw => gd_good ?_) rfl rfl rfl (mc_np hk) (room_ok hk hdd hC.2.2.2.2.2.2.1 hC.2.2.2.2.2.2.2)) ⟨blind, fun U hU hW => ⟨rfl, by rw [hU]; exact hw, hC.2.2.2.2.1.warm hW⟩⟩ rfl (by rw [List.length_map]; exact hn) hlv.1 ?_ ?_ hd ⟨h1, h2⟩
  · unfold va_wsS at hw
    rcases List.mem_append.mp hw with hw | hw
    · simp only [List.mem_cons, List.not_mem_nil, or_false] at hw
      rcases hw with rfl | rfl | rfl
      · exact ml_w hl
      · exact w2
      · exact hk.2.2.2.1
    · exact gi_code hk w hw
  · show (as.reverse ++ st).map (con G) = _
    rw [List.map_append, List.map_reverse]
  · show 2 * 0 + _ ≤ 8
    have := low_8 (G := G) hlow
    omega
theorem rst_v {k : Nat} {r : RV} (h : am_rt k = 0) : rst k r = [] := by unfold rst; rw [h]; rfl
theorem s_invI {k d' idx a : Nat} {as : List AV} {q1 : RR} (hd : decode (mBy y) pc = .ok (.invokespecial idx, 3)) (hl : (mOc y, idx, k) ∈ am_ml ∨ (mOc y, idx, k) ∈ am_mn) (hk : mOk k) (hkd : mKd k = 2) (hrt : mRt k = none) (hn : as.length = am_np k) (hlow : am_low st = true) (hdd : d' + 1 ≤ d) (hS : Sd l G d' k (vR (some a) :: as) h q1) (hV : V l G d y (pc + 3) ls st q1.2 q) : V l G d y pc ls (as.reverse ++ vR (some a) :: st) h q := by
  have hrt0 : am_rt k = 0 := by unfold am_rt; rw [hrt]
  refine V.call (k := k) (q1 := q1) (av := (Value.ref (adr G a) :: as.map (con G)).toArray) hS.1 (by rw [rst_v hrt0]; exact hV) fun p e R s m args below meth c H locs cells slots lsM hC hw hSv hlv h1 h2 => ?_
  have w2 : Cond.instanceMethod (mNm k) ∈ gdW := by have := hk.2.1; unfold am_w2 at this; rw [hkd] at this; exact this
  have hM := hS.2
  rw [hrt] at hM
  have gc := gi_code hk
  rw [hrt] at gc
  have hst : (as.reverse ++ vR (some a) :: st).map (con G) = (as.map (con G)).reverse ++ .ref (adr G a) :: st.map (con G) := by rw [List.map_append, List.map_reverse]; rfl
  have hlo : 2 * 0 + (((st.map (con G)).map fun v => v.category).sum) ≤ 8 := by have := low_8 (G := G) hlow; omega
  rcases hl with hl | hl
  · exact va_runI (Ts := gdW) (As := as.map (con G)) ⟨hC.1.1, hC.1.2.1, hC.1.2.2, hC.2.2.1, hC.2.2.2.1⟩ hM (cwI (am_np k) hC.2.2.2.1 (fun w hw => gd_good (gc w hw)) rfl rfl rfl (hC.2.2.2.1 _ hk.2.2.2.1) (hC.2.2.2.1 _ (ml_w hl)) (hC.2.2.2.1 _ w2) (mc_init hk hkd) (mc_np hk) (room_ok hk hdd hC.2.2.2.2.2.2.1 hC.2.2.2.2.2.2.2)) ⟨blind, fun U hU hW => ⟨rfl, by rw [hU]; exact hw, hC.2.2.2.2.1.warm hW⟩⟩ rfl (by rw [List.length_map]; exact hn) hlv.1 hst hlo hd ⟨h1, h2⟩
  · have hnw : va_Nw (.methodLinkNest (am_own (mOc y)) idx (mNm k) "TownSundays") s := hC.2.2.2.2.1.2.2.2.1.1 (mOc y, idx, k) hl
    have cn := va_cnB (R := R) (n := am_np k) (own := am_own (mOc y)) (host := "TownSundays") (index := idx) (y := mNm k) (bytes := mBy k) (maxL := mMl k) (ret := none) (rm := { frames := d', cells := hpn q1.2 - hpn h, slots := hps q1.2 - hps h, locals := 64 * d' }) hC.2.2.2.1 (fun w hw => gd_good (gc w hw)) rfl rfl rfl hnw (hC.2.2.2.1 _ hk.2.2.2.1) (mc_np hk) (room_ok hk hdd hC.2.2.2.2.2.2.1 hC.2.2.2.2.2.2.2)
    exact va_runIN (Ts := gdW) (As := as.map (con G)) ⟨hC.1.1, hC.1.2.1, hC.1.2.2, hC.2.2.1, hC.2.2.2.1⟩ hM ⟨cn, mc_init hk hkd, hC.2.2.2.1 _ w2⟩ ⟨blind, fun U hU hW => ⟨rfl, by rw [hU]; exact hw, hC.2.2.2.2.1.warm hW⟩⟩ rfl (by rw [List.length_map]; exact hn) hlv.1 hst hlo hd ⟨h1, h2⟩
def am_oi : List (Nat × Nat) := [(11, 3), (1, 3), (8, 3), (5, 7), (9, 3), (0, 3), (6, 3), (2, 3), (7, 5), (4, 5), (3, 3), (10, 5), (12, 18)]
theorem oi_ok : [159, 167, 267, 282, 288, 366, 372, 389, 404, 431, 448, 473, 1235].map (fun i => lw_tbl[i]?) = am_oi.map (fun q => some (Cond.methodLink (am_own q.1) q.2 Lib.objectInit)) := by decide +kernel
theorem oi_i : Cond.instanceMethod Lib.objectInit ∈ gdW := gd_in (List.mem_of_getElem? (i := 160) (by decide +kernel)) rfl
theorem oi_c : Cond.code Lib.objectInit ⟨#[0xb1]⟩ 1 none ∈ gdW := gd_in (List.mem_of_getElem? (i := 161) (by decide +kernel)) rfl
theorem s_oinit {idx : Nat} {o : Option Nat} {a : Nat} (ho : o = some a) (hd : decode (mBy y) pc = .ok (.invokespecial idx, 3)) (hl : (mOc y, idx) ∈ am_oi) (hlow : am_low st = true) (hdd : 1 ≤ d) (hV : V l G d y (pc + 3) ls st h q) : V l G d y pc ls (vR o :: st) h q := by
  subst ho
  refine hV.pure fun p e R s m args below meth c H locs cells slots lsM Q hC hw hS hlv kk => ?_
  have hf := hC.2.2.2.2.2.2.1
  have hlo := hC.2.2.2.2.2.2.2
  have := low_8 (G := G) hlow
  exact W.objInit hC.1.1 hC.1.2.1 hC.2.2.1 (hC.2.2.2.1 _ (gd_in (map_mem oi_ok _ hl) rfl)) (hC.2.2.2.1 _ oi_i) (hC.2.2.2.1 _ oi_c) rfl (hlv.1.trans hC.1.2.2.symm) rfl hd (by omega) (by show 2 * 0 + _ + 12 ≤ _; omega) (kk lsM hlv)
end P11
