/-! The words' length, its signs: the JDK's own methods, walked (by program, wip/whole/gen11s.py) -/
section P11S
variable {l : Launch} {G : EG} {d y pc : Nat} {ls : AL} {st : List AV} {h : AH} {q : RR}
def am_sl : List (Nat × Nat) := [(5, 80)]
def am_sc : List (Nat × Nat) := [(5, 85)]
set_option maxRecDepth 100000 in
set_option maxHeartbeats 40000000 in
theorem mw1_9 : (List.range 4).map (fun i => lw_tbl[(mPl (296 + i)).1]?) = (List.range 4).map (fun i => some (Cond.code (mNm (296 + i)) (mBy (296 + i)) (mMl (296 + i)) (mRt (296 + i)))) := rfl
theorem mw2_9 : (List.range 4).map (fun i => lw_tbl[(mPl (296 + i)).2.1]?) = (List.range 4).map (fun i => some (am_w2 (296 + i))) := by decide +kernel
theorem mw3_9 : (List.range 4).map (fun i => lw_tbl[am_p3 (296 + i)]?) = (List.range 4).map (fun i => some (am_w3 (296 + i))) := by decide +kernel
theorem mw4_9 : (List.range 4).map (fun i => lw_tbl[(mPl (296 + i)).2.2.2]?) = (List.range 4).map (fun i => some (Cond.initialized (mNm (296 + i)).cls)) := by decide +kernel
theorem mc_9 : ((List.range 4).all fun i => am_mc (296 + i)) = true := by decide +kernel
set_option maxRecDepth 100000 in
set_option maxHeartbeats 40000000 in
theorem mw1_10 : (List.range 1).map (fun i => lw_tbl[(mPl (306 + i)).1]?) = (List.range 1).map (fun i => some (Cond.code (mNm (306 + i)) (mBy (306 + i)) (mMl (306 + i)) (mRt (306 + i)))) := rfl
theorem mw2_10 : (List.range 1).map (fun i => lw_tbl[(mPl (306 + i)).2.1]?) = (List.range 1).map (fun i => some (am_w2 (306 + i))) := by decide +kernel
theorem mw3_10 : (List.range 1).map (fun i => lw_tbl[am_p3 (306 + i)]?) = (List.range 1).map (fun i => some (am_w3 (306 + i))) := by decide +kernel
theorem mw4_10 : (List.range 1).map (fun i => lw_tbl[(mPl (306 + i)).2.2.2]?) = (List.range 1).map (fun i => some (Cond.initialized (mNm (306 + i)).cls)) := by decide +kernel
theorem mc_10 : ((List.range 1).all fun i => am_mc (306 + i)) = true := by decide +kernel
theorem mok2 {k : Nat} (hk : (296 ≤ k ∧ k < 300) ∨ k = 306) : mOk k := by
  have g : ∀ (b n : Nat), (List.range n).map (fun i => lw_tbl[(mPl (b + i)).1]?) = (List.range n).map (fun i => some (Cond.code (mNm (b + i)) (mBy (b + i)) (mMl (b + i)) (mRt (b + i)))) → (List.range n).map (fun i => lw_tbl[(mPl (b + i)).2.1]?) = (List.range n).map (fun i => some (am_w2 (b + i))) → (List.range n).map (fun i => lw_tbl[am_p3 (b + i)]?) = (List.range n).map (fun i => some (am_w3 (b + i))) → (List.range n).map (fun i => lw_tbl[(mPl (b + i)).2.2.2]?) = (List.range n).map (fun i => some (Cond.initialized (mNm (b + i)).cls)) → ((List.range n).all fun i => am_mc (b + i)) = true → b ≤ k → k < b + n → mOk k := by
    intro b n e1 e2 e3 e4 e5 h1 h2
    exact ⟨gd_in (ch_map (f := fun j => (mPl j).1) (g := fun j => Cond.code (mNm j) (mBy j) (mMl j) (mRt j)) e1 h1 h2) rfl, gd_in (ch_map (f := fun j => (mPl j).2.1) (g := am_w2) e2 h1 h2) (gw2 k), gd_in (ch_map (f := am_p3) (g := am_w3) e3 h1 h2) (gw3 k), gd_in (ch_map (f := fun j => (mPl j).2.2.2) (g := fun j => Cond.initialized (mNm j).cls) e4 h1 h2) rfl, ch_all e5 h1 h2⟩
  rcases hk with hk | hk
  · exact g 296 4 mw1_9 mw2_9 mw3_9 mw4_9 mc_9 (by omega) (by omega)
  · exact g 306 1 mw1_10 mw2_10 mw3_10 mw4_10 mc_10 (by omega) (by omega)
/-- a JDK method's end: nothing has changed -/
def Qx (G : EG) (h : AH) (w : Option Value) : Array Value → State → Outcome → State → Prop := fun _ _ oc t => oc = .returned w ∧ wd G h t.heap ∧ Kw G t
/-- from here the JDK's method y comes to its end with w -/
def VX (l : Launch) (G : EG) (d y pc : Nat) (lsV : List (Nat × Value)) (stV : List Value) (h : AH) (w : Option Value) : Prop :=
  ∀ (p : Program) (e : Env) (R : Room) (s : State) (m : MethodId) (args : Array Value) (below : List Frame) (meth : Method) (c : Code) (H : Heap) (locs : List Loc) (cells slots : Nat) (lsM : Array Slot),
    CX G d y p R s m args meth c → cells ≤ R.cells → slots ≤ R.slots → wd G h H → va_S (nwq G) s.heap H locs → lv_has lsM (mMl y) lsV →
    W p l e R s m args below meth c H locs cells slots (MQ below (Qx G h w) args s cells slots (nwq G)) (F0 m pc lsM stV)
/-- a JDK method's contract -/
def Sx (l : Launch) (G : EG) (d y : Nat) (as : List Value) (h : AH) (w : Option Value) : Prop := Met l (mNm y) (.code (mNm y) (mBy y) (mMl y) (mRt y) :: gdW) { frames := d, cells := 0, slots := 0, locals := 64 * d } (va_Pc as (fun U => wd G h U.heap ∧ Kw G U)) (Qx G h w) 0 0 (nwq G)
theorem blindx {as : List Value} : FrameBlind (va_Pc as (fun U => wd G h U.heap ∧ Kw G U)) := fun a U g mk hP => ⟨hP.1, hP.2.1, Kw.same rfl hP.2.2⟩
theorem Sx.of {as : List Value} {lsV : List (Nat × Value)} {w : Option Value} (hy : plainName (mNm y).cls = true) (hc : (mNm y).cls = am_own (mOc y)) (hlen : (lg_sl as).length ≤ mMl y) (hls : lv_args 0 as = lsV) (hV : VX l G d y 0 lsV [] h w) : Sx l G d y as h w := by
  refine Met.ofW (cc := mBy y) (maxL := mMl y) (ret := mRt y) hy rfl ?_
  intro p e s m args below meth c s₁ B hml hv
  obtain ⟨rfl, hw, hK⟩ := hv
  have hts := atoms_spec (ws := .code (mNm y) (mBy y) (mMl y) (mRt y) :: gdW) B.pre
  have hown : s.vm.findClass (mNm y).cls = some m.cls := findClass_of_methodNamed B.named
  have hl := lv_entry as (n := mMl y) hlen
  rw [lg_entry_eq]
  have hsz : gB G ≤ s.heap.size := by have := hw.2.1; omega
  subst hls
  exact hV p e _ s m _ below meth c s.heap [] 0 0 _ ⟨⟨B.exec, B.bytes, hml⟩, ⟨B.returns, B.notSynchronized, (name_of_methodNamed B.named B.method).1⟩, by rw [← hc]; exact hown, fun w hw => hts w (List.mem_cons_of_mem _ hw), hK, ⟨hsz, hw.2.2.2.1⟩, Nat.le_refl _, Nat.le_refl _⟩ (Nat.zero_le _) (Nat.zero_le _) hw va_S.rf hl
theorem VX.call {lsV : List (Nat × Value)} {stk rest : List Value} {av : Array Value} {k : Nat} {w w1 : Option Value} (hV : VX l G d y (pc + 3) lsV (w1.toList ++ rest) h w)
    (hr : ∀ (p : Program) (e : Env) (R : Room) (s : State) (m : MethodId) (args : Array Value) (below : List Frame) (meth : Method) (c : Code) (H : Heap) (locs : List Loc) (cells slots : Nat) (lsM : Array Slot),
      CX G d y p R s m args meth c → cells + 0 ≤ R.cells → slots + 0 ≤ R.slots → wd G h H → va_S (nwq G) s.heap H locs → lv_has lsM (mMl y) lsV →
      va_Run p l e R s m args below meth c H locs cells slots 0 0 (F0 m pc lsM stk) rest (Qx G h w1 av) (nwq G)) : VX l G d y pc lsV stk h w := by
  intro p e R s m args below meth c H locs cells slots lsM hC k1 k2 h5 h6 h7
  intro T hT X
  obtain ⟨v, st₀, t, T', L, h0, X', hL, e1, e2, ⟨hq1, hq2, hq3⟩, hst⟩ := hr p e R s m args below meth c H locs cells slots lsM hC k1 k2 h5 h6 h7 T hT X
  cases hq1
  have hw1 : wd G h T'.heap := by rw [e1]; exact hq2
  have s2 := h5.2.1
  have s3 := hw1.2.1
  have s4 := h6.1
  have key := hV p e R s m args below meth c T'.heap (locs ++ L) cells slots lsM hC k1 k2 hw1
    ⟨by omega, fun x hx1 hx2 => (hw1.2.2.2.1 x (Nat.not_le.mp hx2)).trans (hC.2.2.2.2.2.1.2 x (Nat.not_le.mp hx2)).symm, fun x hx1 => (List.mem_append.mp hx1).elim (h6.2.2 x) (hL x)⟩ h7 T' rfl X'
  obtain ⟨t2, a1, b1⟩ := key
  exact ⟨t2, hst t2 a1, b1⟩
theorem x_invS {lsV : List (Nat × Value)} {as rest : List Value} {w w1 : Option Value} {k idx d' : Nat} (hd : decode (mBy y) pc = .ok (.invokestatic idx, 3)) (hl : (mOc y, idx, k) ∈ am_ml) (hk : mOk k) (hkd : mKd k = 1) (hn : as.length = am_np k) (hlow : (rest.map fun v => v.category).sum ≤ 8) (hdd : d' + 1 ≤ d) (hS : Sx l G d' k as h w1) (hV : VX l G d y (pc + 3) lsV (w1.toList ++ rest) h w) : VX l G d y pc lsV (as.reverse ++ rest) h w := by
  refine VX.call (av := as.toArray) (k := k) hV fun p e R s m args below meth c H locs cells slots lsM hC h1 h2 hw hSv hlv => ?_
  have w2 : Cond.static (mNm k) ∈ gdW := by have := hk.2.1; unfold am_w2 at this; rw [hkd] at this; exact this
  refine va_runS (Ts := gdW) (As := as) ⟨hC.1.1, hC.1.2.1, hC.1.2.2, hC.2.2.1, hC.2.2.2.1⟩ hS (va_cwS (am_np k) hC.2.2.2.1 (fun w hw => gd_good ?_) rfl rfl rfl (mc_np hk) (room_ok hk hdd hC.2.2.2.2.2.2.1 hC.2.2.2.2.2.2.2)) ⟨blindx, fun U hU hW => ⟨rfl, by rw [hU]; exact hw, hC.2.2.2.2.1.warm hW⟩⟩ rfl hn hlv.1 rfl ?_ hd ⟨h1, h2⟩
  · unfold va_wsS at hw
    rcases List.mem_append.mp hw with hw | hw
    · simp only [List.mem_cons, List.not_mem_nil, or_false] at hw
      rcases hw with rfl | rfl | rfl
      · exact ml_w hl
      · exact w2
      · exact hk.2.2.2.1
    · exact gi_code hk w hw
  · show 2 * 0 + _ ≤ 8
    omega
/-- a method of the text of the words is called -/
theorem x_invV {lsV : List (Nat × Value)} {as rest : List Value} {w w1 : Option Value} {k idx d' : Nat} (hd : decode (mBy y) pc = .ok (.invokevirtual idx, 3)) (hl : (mOc y, idx, k) ∈ am_ml) (hk : mOk k) (hkd : mKd k = 0) (hcl : (mNm k).cls = "java/lang/String") (hn : as.length = am_np k) (hlow : (rest.map fun v => v.category).sum ≤ 8) (hdd : d' + 1 ≤ d) (hS : Sx l G d' k (.ref (gA G 2) :: as) h w1) (hV : VX l G d y (pc + 3) lsV (w1.toList ++ rest) h w) : VX l G d y pc lsV (as.reverse ++ .ref (gA G 2) :: rest) h w := by
  refine VX.call (av := (Value.ref (gA G 2) :: as).toArray) (k := k) hV fun p e R s m args below meth c H locs cells slots lsM hC h1 h2 hw hSv hlv => ?_
  have hold : ∀ a : Nat, a < (gH G).size → ¬ nwq G a → s.heap[a]? = (gH G)[a]? := fun a ha _ => hC.2.2.2.2.2.1.2 a ha
  have hvk := hC.2.2.2.2.1.2.2.2.2.2.2.1.kept hold
  have hrecv := vk_recv hvk (i := 0) (by decide) hSv
  rw [← hcl] at hrecv
  have w2 : Cond.instanceMethod (mNm k) ∈ gdW := by have := hk.2.1; unfold am_w2 at this; rw [hkd] at this; exact this
  have w3 : Cond.selects (mNm k).cls (mNm k) (mNm k) ∈ gdW := by have := hk.2.2.1; unfold am_w3 at this; rw [hkd] at this; exact this
  refine va_runV (Ts := gdW) (As := as) ⟨hC.1.1, hC.1.2.1, hC.1.2.2, hC.2.2.1, hC.2.2.2.1⟩ hS (cwV (C := (mNm k).cls) (am_np k) hC.2.2.2.1 (fun w hw => gd_good ?_) rfl rfl rfl ⟨rfl, mc_np hk⟩ (room_ok hk hdd hC.2.2.2.2.2.2.1 hC.2.2.2.2.2.2.2)) ⟨blindx, hrecv, fun U hU hW => ⟨rfl, by rw [hU]; exact hw, hC.2.2.2.2.1.warm hW⟩⟩ rfl hn hlv.1 rfl ?_ hd ⟨h1, h2⟩
  · unfold wsV at hw
    rcases List.mem_append.mp hw with hw | hw
    · simp only [List.mem_cons, List.not_mem_nil, or_false] at hw
      rcases hw with rfl | rfl | rfl | rfl
      · exact ml_w hl
      · exact w2
      · exact w3
      · exact hk.2.2.2.1
    · exact gi_code hk w hw
  · show 2 * 0 + _ ≤ 8
    omega
section rows
variable {lsV : List (Nat × Value)} {rest : List Value} {w : Option Value}
theorem x_go (pc' : Nat) (stV stV' : List Value) (hV : VX l G d y pc' lsV stV' h w) (hs : ∀ (p : Program) (e : Env) (R : Room) (s : State) (m : MethodId) (args : Array Value) (below : List Frame) (meth : Method) (c : Code) (H : Heap) (locs : List Loc) (cells slots : Nat) (lsM : Array Slot) (Q : State → Prop), CX G d y p R s m args meth c → va_S (nwq G) s.heap H locs → lv_has lsM (mMl y) lsV → W p l e R s m args below meth c H locs cells slots Q (F0 m pc' lsM stV') → W p l e R s m args below meth c H locs cells slots Q (F0 m pc lsM stV)) : VX l G d y pc lsV stV h w := by
  intro p e R s m args below meth c H locs cells slots lsM hC k1 k2 h5 h6 h7
  exact hs p e R s m args below meth c H locs cells slots lsM _ hC h6 h7 (hV p e R s m args below meth c H locs cells slots lsM hC k1 k2 h5 h6 h7)
theorem x_aload {i : Fin 4} {a j : Nat} (hd : decode (mBy y) pc = .ok (.aload_n i, 1)) (hj : lsV[j]? = some (i.val, .ref a)) (hV : VX l G d y (pc + 1) lsV (.ref a :: rest) h w) : VX l G d y pc lsV rest h w := x_go _ _ _ hV fun p e R s m args below meth c H locs cells slots lsM Q hC hS hl k => lv_aload_n hC.1.1 hC.1.2.1 hd rfl (lv_at hl j hj) k
theorem x_iload {i : Fin 4} {x : Int32} {j : Nat} (hd : decode (mBy y) pc = .ok (.iload_n i, 1)) (hj : lsV[j]? = some (i.val, .int x)) (hV : VX l G d y (pc + 1) lsV (.int x :: rest) h w) : VX l G d y pc lsV rest h w := x_go _ _ _ hV fun p e R s m args below meth c H locs cells slots lsM Q hC hS hl k => lv_iload_n hC.1.1 hC.1.2.1 hd rfl (lv_at hl j hj) k
theorem x_vk {s : State} {p : Program} {R : Room} {m : MethodId} {args : Array Value} {meth : Method} {c : Code} (hC : CX G d y p R s m args meth c) : vk_S 1 [am_wb.length] [am_wb] (fun _ => gA G 2) (fun _ => gA G 3) (nwq G) s s.heap := hC.2.2.2.2.1.2.2.2.2.2.2.1.kept fun a ha _ => hC.2.2.2.2.2.1.2 a ha
theorem x_val {idx : Nat} (hd : decode (mBy y) pc = .ok (.getfield idx, 3)) (hy : am_own (mOc y) = "java/lang/String") (hi : idx = 9) (hV : VX l G d y (pc + 3) lsV (.ref (gA G 3) :: rest) h w) : VX l G d y pc lsV (.ref (gA G 2) :: rest) h w := by
  subst hi
  refine x_go _ _ _ hV fun p e R s m args below meth c H locs cells slots lsM Q hC hS hl k => ?_
  exact vk_getf hC.1.1 hC.1.2.1 ((x_vk hC).1 0 (by decide)).2.2.1 hS hC.2.2.1 (by rw [hy]; exact hC.2.2.2.1 (.fieldLink "java/lang/String" 9 "java/lang/String" "value" "[B") (gd_in (List.mem_of_getElem? (i := 1981) (by decide +kernel)) rfl)) (fun x hx => hx) hd k
theorem x_cod {idx : Nat} (hd : decode (mBy y) pc = .ok (.getfield idx, 3)) (hy : am_own (mOc y) = "java/lang/String") (hi : idx = 15) (hV : VX l G d y (pc + 3) lsV (.int 0 :: rest) h w) : VX l G d y pc lsV (.ref (gA G 2) :: rest) h w := by
  subst hi
  refine x_go _ _ _ hV fun p e R s m args below meth c H locs cells slots lsM Q hC hS hl k => ?_
  exact vk_getf hC.1.1 hC.1.2.1 ((x_vk hC).1 0 (by decide)).2.1 hS hC.2.2.1 (by rw [hy]; exact hC.2.2.2.1 (.fieldLink "java/lang/String" 15 "java/lang/String" "coder" "B") (gd_in (List.mem_of_getElem? (i := 1982) (by decide +kernel)) rfl)) (fun x hx => hx) hd k
theorem x_com {idx : Nat} (hd : decode (mBy y) pc = .ok (.getstatic idx, 3)) (hy : am_own (mOc y) = "java/lang/String") (hi : idx = 38) (hV : VX l G d y (pc + 3) lsV (.int 1 :: rest) h w) : VX l G d y pc lsV rest h w := by
  subst hi
  refine x_go _ _ _ hV fun p e R s m args below meth c H locs cells slots lsM Q hC hS hl k => ?_
  have hZ := hC.2.2.2.2.1.2.2.2.2.2.2.2.1.kept (H1 := s.heap) (fun a ha _ => hC.2.2.2.2.2.1.2 a ha)
  exact va_gets hC.1.1 hC.1.2.1 hZ hS hC.2.2.1 (by rw [hy]; exact hC.2.2.2.1 (.fieldLink "java/lang/String" 38 "java/lang/String" "COMPACT_STRINGS" "Z") (gd_in (List.mem_of_getElem? (i := 730) (by decide +kernel)) rfl)) (fun x hx => hx) hd k
theorem x_len (hd : decode (mBy y) pc = .ok (.arraylength, 1)) (hV : VX l G d y (pc + 1) lsV (.int 135 :: rest) h w) : VX l G d y pc lsV (.ref (gA G 3) :: rest) h w := by
  refine x_go _ _ _ hV fun p e R s m args below meth c H locs cells slots lsM Q hC hS hl k => ?_
  obtain ⟨cell, y1, y2, y3, y4, y5, y6, y7⟩ := (((x_vk hC).1 0 (by decide)).2.2.2).kept hS.2.1
  have e : Int32.ofNat ([am_wb.length].getD 0 0) = 135 := by decide +kernel
  exact W.alen hC.1.1 hC.1.2.1 y1 y2 (n := 135) (y5.trans e) rfl rfl hd k
theorem getD0 (l : List Int32) : [l].getD 0 [] = l := rfl
theorem x_bald {i : Int32} (hd : decode (mBy y) pc = .ok (.baload, 1)) (hi : ¬ i < 0) (hi2 : i.toNatClampNeg < 135) (hV : VX l G d y (pc + 1) lsV (.int (am_wb.getD i.toNatClampNeg 0) :: rest) h w) : VX l G d y pc lsV (.int i :: .ref (gA G 3) :: rest) h w := by
  refine x_go _ _ _ hV fun p e R s m args below meth c H locs cells slots lsM Q hC hS hl k => ?_
  have e : [am_wb.length].getD 0 0 = 135 := by decide +kernel
  exact va_tb hC.1.1 hC.1.2.1 ((x_vk hC).1 0 (by decide)).2.2.2 hS (by rw [e]; exact fun z => z.elim hi (fun z => absurd hi2 (Nat.not_lt.mpr z))) (by show Value.int (([am_wb].getD 0 []).getD i.toNatClampNeg 0) = _; rw [getD0]) hd k
end rows
theorem cat1 (x : Int32) : (Value.int x).category = 1 := rfl
theorem x_coder : Sx l G d 296 [.ref (gA G 2)] h (some (.int 0)) := by
  refine Sx.of (lsV := [(0, .ref (gA G 2))]) (by decide +kernel) (by decide +kernel) (show (1 : Nat) ≤ mMl 296 by decide +kernel) rfl ?_
  refine x_com (show decode (mBy 296) 0 = .ok (.getstatic 38, 3) by decide +kernel) rfl rfl ?_
  refine x_go 6 _ [] ?_ fun p e R s m args below meth c H locs cells slots lsM Q hC hS hl k => lv_if_eq (tgt := 13) hC.1.1 hC.1.2.1 (show decode (mBy 296) 3 = .ok (.ifCond .eq 10, 3) by decide +kernel) (by decide) (fun z => absurd z (by decide)) (fun _ => k)
  refine x_aload (i := 0) (j := 0) (show decode (mBy 296) 6 = .ok (.aload_n 0, 1) by decide +kernel) rfl ?_
  refine x_cod (show decode (mBy 296) 7 = .ok (.getfield 15, 3) by decide +kernel) rfl rfl ?_
  refine x_go 14 _ [.int 0] ?_ fun p e R s m args below meth c H locs cells slots lsM Q hC hS hl k => lv_goto (tgt := 14) hC.1.1 hC.1.2.1 (show decode (mBy 296) 10 = .ok (.goto 4, 3) by decide +kernel) (by decide) k
  intro p e R s m args below meth c H locs cells slots lsM hC k1 k2 h5 h6 h7
  have hlocks := hC.2.1.2.1
  exact W.zret (ty := .byte) hC.1.1 hC.1.2.1 (hC.2.1.1.trans (show mRt 296 = some .byte by decide +kernel)) rfl (fun t ht hW => ⟨rfl, by rw [ht]; exact h5, hC.2.2.2.2.1.warm hW⟩) (fun q hq => h6.2.2 q hq) (show decode (mBy 296) 14 = .ok (.ireturn, 1) by decide +kernel) hlocks
theorem x_latin : Sx l G d 297 [.ref (gA G 2)] h (some (.int 1)) := by
  refine Sx.of (lsV := [(0, .ref (gA G 2))]) (by decide +kernel) (by decide +kernel) (show (1 : Nat) ≤ mMl 297 by decide +kernel) rfl ?_
  refine x_com (show decode (mBy 297) 0 = .ok (.getstatic 38, 3) by decide +kernel) rfl rfl ?_
  refine x_go 6 _ [] ?_ fun p e R s m args below meth c H locs cells slots lsM Q hC hS hl k => lv_if_eq (tgt := 17) hC.1.1 hC.1.2.1 (show decode (mBy 297) 3 = .ok (.ifCond .eq 14, 3) by decide +kernel) (by decide) (fun z => absurd z (by decide)) (fun _ => k)
  refine x_aload (i := 0) (j := 0) (show decode (mBy 297) 6 = .ok (.aload_n 0, 1) by decide +kernel) rfl ?_
  refine x_cod (show decode (mBy 297) 7 = .ok (.getfield 15, 3) by decide +kernel) rfl rfl ?_
  refine x_go 13 _ [] ?_ fun p e R s m args below meth c H locs cells slots lsM Q hC hS hl k => lv_if_ne (tgt := 17) hC.1.1 hC.1.2.1 (show decode (mBy 297) 10 = .ok (.ifCond .ne 7, 3) by decide +kernel) (by decide) (fun z => absurd rfl z) (fun _ => k)
  refine x_go 14 _ [.int 1] ?_ fun p e R s m args below meth c H locs cells slots lsM Q hC hS hl k => lv_iconst hC.1.1 hC.1.2.1 (show decode (mBy 297) 13 = .ok (.iconst 1, 1) by decide +kernel) rfl k
  refine x_go 18 _ [.int 1] ?_ fun p e R s m args below meth c H locs cells slots lsM Q hC hS hl k => lv_goto (tgt := 18) hC.1.1 hC.1.2.1 (show decode (mBy 297) 14 = .ok (.goto 4, 3) by decide +kernel) (by decide) k
  intro p e R s m args below meth c H locs cells slots lsM hC k1 k2 h5 h6 h7
  have hlocks := hC.2.1.2.1
  exact W.zret (ty := .boolean) hC.1.1 hC.1.2.1 (hC.2.1.1.trans (show mRt 297 = some .boolean by decide +kernel)) rfl (fun t ht hW => ⟨rfl, by rw [ht]; exact h5, hC.2.2.2.2.1.warm hW⟩) (fun q hq => h6.2.2 q hq) (show decode (mBy 297) 18 = .ok (.ireturn, 1) by decide +kernel) hlocks
theorem x_pre {i n : Int32} {f : Value} (hf : f = .null ∨ ∃ t, f = .ref t) (h0 : ¬ i < 0) (h1 : i < n) : Sx l G d 306 [.int i, .int n, f] h (some (.int i)) := by
  refine Sx.of (lsV := lv_args 0 [.int i, .int n, f]) (by decide +kernel) (by decide +kernel) (by rcases hf with rfl | ⟨t, rfl⟩ <;> exact (show (3 : Nat) ≤ mMl 306 by decide +kernel)) rfl ?_
  have e0 : (lv_args 0 [.int i, .int n, f])[0]? = some (0, .int i) := rfl
  have e1 : (lv_args 0 [.int i, .int n, f])[1]? = some (1, .int n) := rfl
  refine x_iload (i := 0) (j := 0) (show decode (mBy 306) 0 = .ok (.iload_n 0, 1) by decide +kernel) e0 ?_
  refine x_go 4 _ [] ?_ fun p e R s m args below meth c H locs cells slots lsM Q hC hS hl k => lv_if_lt (tgt := 9) hC.1.1 hC.1.2.1 (show decode (mBy 306) 1 = .ok (.ifCond .lt 8, 3) by decide +kernel) (by decide) (fun z => absurd z h0) (fun _ => k)
  refine x_iload (i := 0) (j := 0) (show decode (mBy 306) 4 = .ok (.iload_n 0, 1) by decide +kernel) e0 ?_
  refine x_iload (i := 1) (j := 1) (show decode (mBy 306) 5 = .ok (.iload_n 1, 1) by decide +kernel) e1 ?_
  refine x_go 16 _ [] ?_ fun p e R s m args below meth c H locs cells slots lsM Q hC hS hl k => lv_icmp_lt (tgt := 16) hC.1.1 hC.1.2.1 (show decode (mBy 306) 6 = .ok (.if_icmp .lt 10, 3) by decide +kernel) (by decide) (fun _ => k) (fun z => absurd h1 z)
  refine x_iload (i := 0) (j := 0) (show decode (mBy 306) 16 = .ok (.iload_n 0, 1) by decide +kernel) e0 ?_
  intro p e R s m args below meth c H locs cells slots lsM hC k1 k2 h5 h6 h7
  have hlocks := hC.2.1.2.1
  exact W.iret hC.1.1 hC.1.2.1 (hC.2.1.1.trans (show mRt 306 = some .int by decide +kernel)) (fun t ht hW => ⟨rfl, by rw [ht]; exact h5, hC.2.2.2.2.1.warm hW⟩) (fun q hq => h6.2.2 q hq) (show decode (mBy 306) 17 = .ok (.ireturn, 1) by decide +kernel) hlocks
theorem x_chk {i n : Int32} (hdd : 1 ≤ d) (h0 : ¬ i < 0) (h1 : i < n) : Sx l G d 298 [.int i, .int n] h none := by
  refine Sx.of (lsV := [(0, .int i), (1, .int n)]) (by decide +kernel) (by decide +kernel) (show (2 : Nat) ≤ mMl 298 by decide +kernel) rfl ?_
  refine x_iload (i := 0) (j := 0) (show decode (mBy 298) 0 = .ok (.iload_n 0, 1) by decide +kernel) rfl ?_
  refine x_iload (i := 1) (j := 1) (show decode (mBy 298) 1 = .ok (.iload_n 1, 1) by decide +kernel) rfl ?_
  have hgo : ∀ f : Value, (f = .null ∨ ∃ t, f = .ref t) → VX l G d 298 5 [(0, .int i), (1, .int n)] [f, .int n, .int i] h none := by
    intro f hf
    refine x_invS (as := [.int i, .int n, f]) (rest := []) (k := 306) (d' := 0) (w1 := some (.int i)) (show decode (mBy 298) 5 = .ok (.invokestatic 1059, 3) by decide +kernel) (by decide +kernel) (mok2 (Or.inr rfl)) (by decide +kernel) (show (3 : Nat) = am_np 306 by decide +kernel) (by decide) (by omega) (x_pre hf h0 h1) ?_
    refine x_go 9 _ [] ?_ fun p e R s m args below meth c H locs cells slots lsM Q hC hS hl k => lv_pop hC.1.1 hC.1.2.1 (show decode (mBy 298) 8 = .ok (.pop, 1) by decide +kernel) rfl k
    intro p e R s m args below meth c H locs cells slots lsM hC k1 k2 h5 h6 h7
    have hlocks := hC.2.1.2.1
    exact W.vret hC.1.1 hC.1.2.1 (hC.2.1.1.trans (show mRt 298 = none by decide +kernel)) (fun t ht hW => ⟨rfl, by rw [ht]; exact h5, hC.2.2.2.2.1.warm hW⟩) (fun q hq => h6.2.2 q hq) (show decode (mBy 298) 9 = .ok (.return_, 1) by decide +kernel) hlocks
  intro p e R s m args below meth c H locs cells slots lsM hC k1 k2 h5 h6 h7
  have hZ := hC.2.2.2.2.1.2.2.2.2.2.2.2.2.kept (H1 := s.heap) (fun a ha _ => hC.2.2.2.2.2.1.2 a ha)
  rcases hZ with hZ | ⟨t, hZ⟩
  · exact va_gets hC.1.1 hC.1.2.1 hZ h6 hC.2.2.1 (hC.2.2.2.1 (.fieldLink "java/lang/String" 1053 "jdk/internal/util/Preconditions" "SIOOBE_FORMATTER" "Ljava/util/function/BiFunction;") (gd_in (List.mem_of_getElem? (i := 746) (by decide +kernel)) rfl)) (fun x hx => hx) (show decode (mBy 298) 2 = .ok (.getstatic 1053, 3) by decide +kernel) (hgo _ (Or.inl rfl) p e R s m args below meth c H locs cells slots lsM hC k1 k2 h5 h6 h7)
  · exact va_gets hC.1.1 hC.1.2.1 hZ h6 hC.2.2.1 (hC.2.2.2.1 (.fieldLink "java/lang/String" 1053 "jdk/internal/util/Preconditions" "SIOOBE_FORMATTER" "Ljava/util/function/BiFunction;") (gd_in (List.mem_of_getElem? (i := 746) (by decide +kernel)) rfl)) (fun x hx => hx) (show decode (mBy 298) 2 = .ok (.getstatic 1053, 3) by decide +kernel) (hgo _ (Or.inr ⟨_, rfl⟩) p e R s m args below meth c H locs cells slots lsM hC k1 k2 h5 h6 h7)
theorem wb_nar : (am_wb.all fun x => decide (narrow .char (.int x) = .int x)) = true := by decide +kernel
theorem x_nar (i : Int32) : narrow .char (.int (am_wb.getD i.toNatClampNeg 0)) = .int (am_wb.getD i.toNatClampNeg 0) := by
  rw [List.getD_eq_getElem?_getD]
  cases hz : am_wb[i.toNatClampNeg]? with
  | none => rfl
  | some x => exact of_decide_eq_true (List.all_eq_true.mp wb_nar x (List.mem_of_getElem? hz))
theorem wb_ch : (am_wb.all fun x => decide ((((x &&& 255).toUInt32) % 65536).toInt32 = x)) = true := by decide +kernel
theorem x_l1 {i : Int32} (hdd : 2 ≤ d) (h0 : ¬ i < 0) (h1 : i.toNatClampNeg < 135) : Sx l G d 299 [.ref (gA G 3), .int i] h (some (.int (am_wb.getD i.toNatClampNeg 0))) := by
  have h2 : i < 135 := by
    rw [Int32.lt_iff_toInt_lt]
    have a1 : (0 : Int) ≤ i.toInt := by
      have := Int32.not_lt.mp h0
      simpa using Int32.le_iff_toInt_le.mp this
    have a2 : i.toInt.toNat < 135 := h1
    show i.toInt < 135
    omega
  refine Sx.of (lsV := [(0, .ref (gA G 3)), (1, .int i)]) (by decide +kernel) (by decide +kernel) (show (2 : Nat) ≤ mMl 299 by decide +kernel) rfl ?_
  refine x_iload (i := 1) (j := 1) (show decode (mBy 299) 0 = .ok (.iload_n 1, 1) by decide +kernel) rfl ?_
  refine x_aload (i := 0) (j := 0) (show decode (mBy 299) 1 = .ok (.aload_n 0, 1) by decide +kernel) rfl ?_
  refine x_len (show decode (mBy 299) 2 = .ok (.arraylength, 1) by decide +kernel) ?_
  refine x_invS (as := [.int i, .int 135]) (rest := []) (k := 298) (d' := 1) (w1 := none) (show decode (mBy 299) 3 = .ok (.invokestatic 9, 3) by decide +kernel) (by decide +kernel) (mok2 (Or.inl (by omega))) (by decide +kernel) (show (2 : Nat) = am_np 298 by decide +kernel) (by decide) (by omega) (x_chk (by omega) h0 h2) ?_
  refine x_aload (i := 0) (j := 0) (show decode (mBy 299) 6 = .ok (.aload_n 0, 1) by decide +kernel) rfl ?_
  refine x_iload (i := 1) (j := 1) (show decode (mBy 299) 7 = .ok (.iload_n 1, 1) by decide +kernel) rfl ?_
  refine x_bald (show decode (mBy 299) 8 = .ok (.baload, 1) by decide +kernel) h0 h1 ?_
  refine x_go 12 _ [.int 255, .int (am_wb.getD i.toNatClampNeg 0)] ?_ fun p e R s m args below meth c H locs cells slots lsM Q hC hS hl k => lv_sipush hC.1.1 hC.1.2.1 (show decode (mBy 299) 9 = .ok (.sipush 255, 3) by decide +kernel) rfl k
  refine x_go 13 _ [.int (am_wb.getD i.toNatClampNeg 0 &&& 255)] ?_ fun p e R s m args below meth c H locs cells slots lsM Q hC hS hl k => lv_iand hC.1.1 hC.1.2.1 (show decode (mBy 299) 12 = .ok (.iand, 1) by decide +kernel) k
  have hch : (((am_wb.getD i.toNatClampNeg 0 &&& 255).toUInt32) % 65536).toInt32 = am_wb.getD i.toNatClampNeg 0 := by
    rw [List.getD_eq_getElem?_getD]
    cases hz : am_wb[i.toNatClampNeg]? with
    | none => decide
    | some x => exact of_decide_eq_true (List.all_eq_true.mp wb_ch x (List.mem_of_getElem? hz))
  refine x_go 14 _ [.int (am_wb.getD i.toNatClampNeg 0)] ?_ fun p e R s m args below meth c H locs cells slots lsM Q hC hS hl k => lv_i2c hC.1.1 hC.1.2.1 (show decode (mBy 299) 13 = .ok (.i2c, 1) by decide +kernel) hch k
  intro p e R s m args below meth c H locs cells slots lsM hC k1 k2 h5 h6 h7
  have hlocks := hC.2.1.2.1
  refine W.zret (ty := .char) hC.1.1 hC.1.2.1 (hC.2.1.1.trans (show mRt 299 = some .char by decide +kernel)) ?_ (fun t ht hW => ⟨rfl, by rw [ht]; exact h5, hC.2.2.2.2.1.warm hW⟩) (fun q hq => h6.2.2 q hq) (show decode (mBy 299) 14 = .ok (.ireturn, 1) by decide +kernel) hlocks
  exact x_nar i

theorem x_length (hdd : 1 ≤ d) : Sx l G d 294 [.ref (gA G 2)] h (some (.int 135)) := by
  refine Sx.of (lsV := [(0, .ref (gA G 2))]) (by decide +kernel) (by decide +kernel) (show (1 : Nat) ≤ mMl 294 by decide +kernel) rfl ?_
  refine x_aload (i := 0) (j := 0) (show decode (mBy 294) 0 = .ok (.aload_n 0, 1) by decide +kernel) rfl ?_
  refine x_val (show decode (mBy 294) 1 = .ok (.getfield 9, 3) by decide +kernel) rfl rfl ?_
  refine x_len (show decode (mBy 294) 4 = .ok (.arraylength, 1) by decide +kernel) ?_
  refine x_aload (i := 0) (j := 0) (show decode (mBy 294) 5 = .ok (.aload_n 0, 1) by decide +kernel) rfl ?_
  refine x_invV (as := []) (rest := [.int 135]) (k := 296) (d' := 0) (w1 := some (.int 0)) (show decode (mBy 294) 6 = .ok (.invokevirtual 335, 3) by decide +kernel) (by decide +kernel) (mok2 (Or.inl (by omega))) (by decide +kernel) (by decide +kernel) (by decide +kernel) (by decide) (by omega) x_coder ?_
  refine x_go 10 _ [.int 135] ?_ fun p e R s m args below meth c H locs cells slots lsM Q hC hS hl k => lv_ishr hC.1.1 hC.1.2.1 (show decode (mBy 294) 9 = .ok (.ishr, 1) by decide +kernel) k
  intro p e R s m args below meth c H locs cells slots lsM hC k1 k2 h5 h6 h7
  have hlocks := hC.2.1.2.1
  exact W.iret hC.1.1 hC.1.2.1 (hC.2.1.1.trans (show mRt 294 = some .int by decide +kernel)) (fun t ht hW => ⟨rfl, by rw [ht]; exact h5, hC.2.2.2.2.1.warm hW⟩) (fun q hq => h6.2.2 q hq) (show decode (mBy 294) 10 = .ok (.ireturn, 1) by decide +kernel) hlocks
theorem x_charAt {i : Int32} (hdd : 3 ≤ d) (h0 : ¬ i < 0) (h1 : i.toNatClampNeg < 135) : Sx l G d 295 [.ref (gA G 2), .int i] h (some (.int (am_wb.getD i.toNatClampNeg 0))) := by
  refine Sx.of (lsV := [(0, .ref (gA G 2)), (1, .int i)]) (by decide +kernel) (by decide +kernel) (show (2 : Nat) ≤ mMl 295 by decide +kernel) rfl ?_
  refine x_aload (i := 0) (j := 0) (show decode (mBy 295) 0 = .ok (.aload_n 0, 1) by decide +kernel) rfl ?_
  refine x_invV (as := []) (rest := []) (k := 297) (d' := 0) (w1 := some (.int 1)) (show decode (mBy 295) 1 = .ok (.invokevirtual 492, 3) by decide +kernel) (by decide +kernel) (mok2 (Or.inl (by omega))) (by decide +kernel) (by decide +kernel) (by decide +kernel) (by decide) (by omega) x_latin ?_
  refine x_go 7 _ [] ?_ fun p e R s m args below meth c H locs cells slots lsM Q hC hS hl k => lv_if_eq (tgt := 16) hC.1.1 hC.1.2.1 (show decode (mBy 295) 4 = .ok (.ifCond .eq 12, 3) by decide +kernel) (by decide) (fun z => absurd z (by decide)) (fun _ => k)
  refine x_aload (i := 0) (j := 0) (show decode (mBy 295) 7 = .ok (.aload_n 0, 1) by decide +kernel) rfl ?_
  refine x_val (show decode (mBy 295) 8 = .ok (.getfield 9, 3) by decide +kernel) rfl rfl ?_
  refine x_iload (i := 1) (j := 1) (show decode (mBy 295) 11 = .ok (.iload_n 1, 1) by decide +kernel) rfl ?_
  refine x_invS (as := [.ref (gA G 3), .int i]) (rest := []) (k := 299) (d' := 2) (w1 := some (.int (am_wb.getD i.toNatClampNeg 0))) (show decode (mBy 295) 12 = .ok (.invokestatic 495, 3) by decide +kernel) (by decide +kernel) (mok2 (Or.inl (by omega))) (by decide +kernel) (show (2 : Nat) = am_np 299 by decide +kernel) (by decide) (by omega) (x_l1 (by omega) h0 h1) ?_
  intro p e R s m args below meth c H locs cells slots lsM hC k1 k2 h5 h6 h7
  have hlocks := hC.2.1.2.1
  exact W.zret (ty := .char) hC.1.1 hC.1.2.1 (hC.2.1.1.trans (show mRt 295 = some .char by decide +kernel)) (x_nar i) (fun t ht hW => ⟨rfl, by rw [ht]; exact h5, hC.2.2.2.2.1.warm hW⟩) (fun q hq => h6.2.2 q hq) (show decode (mBy 295) 15 = .ok (.ireturn, 1) by decide +kernel) hlocks
theorem s_invX {k d' idx : Nat} {as : List AV} {r : RV} {x : Int32} (hd : decode (mBy y) pc = .ok (.invokevirtual idx, 3)) (hl : (mOc y, idx, k) ∈ am_ml) (hk : mOk k) (hkd : mKd k = 0) (hcl : (mNm k).cls = "java/lang/String") (hn : as.length = am_np k) (hlow : am_low st = true) (hdd : d' + 1 ≤ d) (hrt : am_rt k = 1 ∨ am_rt k = 9) (hS : Sx l G d' k (.ref (gA G 2) :: as.map (con G)) h (some (.int x))) (hV : V l G d y (pc + 3) ls (vI x :: st) h q) : V l G d y pc ls (as.reverse ++ vR (some 2) :: st) h q := by
  have hr1 : rst k (rI x) = [vI x] := by unfold rst; rcases hrt with e | e <;> rw [e] <;> rfl
  have ho1 : rOut G k (rI x) = some (.int x) := by unfold rOut; rcases hrt with e | e <;> rw [e] <;> rfl
  refine V.call (k := k) (q1 := (rI x, h)) (av := (Value.ref (gA G 2) :: as.map (con G)).toArray) (Ext.rf h) (by rw [hr1]; exact hV) fun p e R s m args below meth c H locs cells slots lsM hC hw hSv hlv h1 h2 => ?_
  have z1 : hpn (rI x, h).2 - hpn h = 0 := Nat.sub_self _
  have z2 : hps (rI x, h).2 - hps h = 0 := Nat.sub_self _
  have hvk := hC.2.2.2.2.1.2.2.2.2.2.2.1.kept (H1 := s.heap) (fun a ha _ => hC.2.2.2.2.2.1.2 a ha)
  have hrecv := vk_recv hvk (i := 0) (by decide) hSv
  rw [← hcl] at hrecv
  have w2 : Cond.instanceMethod (mNm k) ∈ gdW := by have := hk.2.1; unfold am_w2 at this; rw [hkd] at this; exact this
  have w3 : Cond.selects (mNm k).cls (mNm k) (mNm k) ∈ gdW := by have := hk.2.2.1; unfold am_w3 at this; rw [hkd] at this; exact this
  have eQ : am_Q G k (rI x, h) = Qx G h (some (.int x)) := by unfold am_Q Qx; rw [ho1]
  rw [eQ, z1, z2]
  refine va_runV (Ts := gdW) (As := as.map (con G)) ⟨hC.1.1, hC.1.2.1, hC.1.2.2, hC.2.2.1, hC.2.2.2.1⟩ hS (cwV (C := (mNm k).cls) (am_np k) hC.2.2.2.1 (fun w hw => gd_good ?_) rfl rfl rfl ⟨rfl, mc_np hk⟩ (room_ok hk hdd hC.2.2.2.2.2.2.1 hC.2.2.2.2.2.2.2)) ⟨blindx, hrecv, fun U hU hW => ⟨rfl, by rw [hU]; exact hw, hC.2.2.2.2.1.warm hW⟩⟩ rfl (by rw [List.length_map]; exact hn) hlv.1 ?_ ?_ hd ⟨by omega, by omega⟩
  · unfold wsV at hw
    rcases List.mem_append.mp hw with hw | hw
    · simp only [List.mem_cons, List.not_mem_nil, or_false] at hw
      rcases hw with rfl | rfl | rfl | rfl
      · exact ml_w hl
      · exact w2
      · exact w3
      · exact hk.2.2.2.1
    · exact gi_code hk w hw
  · show (as.reverse ++ vR (some 2) :: st).map (con G) = _
    rw [List.map_append, List.map_reverse]
    rfl
  · show 2 * 0 + _ ≤ 8
    have := low_8 (G := G) hlow
    omega
theorem s_slen {idx : Nat} (hd : decode (mBy y) pc = .ok (.invokevirtual idx, 3)) (hl : (mOc y, idx) ∈ am_sl) (hlow : am_low st = true) (hdd : 6 ≤ d) (hV : V l G d y (pc + 3) ls (vI 135 :: st) h q) : V l G d y pc ls (vR (some 2) :: st) h q := by
  have e : (mOc y, idx) = (5, 80) := by simpa [am_sl] using hl
  have e1 : mOc y = 5 := congrArg Prod.fst e
  have e2 : idx = 80 := congrArg Prod.snd e
  subst e2
  exact s_invX (k := 294) (d' := 1) (as := []) (r := r0) hd (by rw [e1]; decide +kernel) (mok (by omega)) (by decide +kernel) (by decide +kernel) (by decide +kernel) hlow (by omega) (Or.inl (by decide +kernel)) (x_length (by omega)) hV
theorem s_schr {idx : Nat} {i : Int32} (hd : decode (mBy y) pc = .ok (.invokevirtual idx, 3)) (hl : (mOc y, idx) ∈ am_sc) (hi : ¬ i < 0) (hi2 : i.toNatClampNeg < 135) (hlow : am_low st = true) (hdd : 6 ≤ d) (hV : V l G d y (pc + 3) ls (vI (am_wb.getD i.toNatClampNeg 0) :: st) h q) : V l G d y pc ls (vI i :: vR (some 2) :: st) h q := by
  have e : (mOc y, idx) = (5, 85) := by simpa [am_sc] using hl
  have e1 : mOc y = 5 := congrArg Prod.fst e
  have e2 : idx = 85 := congrArg Prod.snd e
  subst e2
  exact s_invX (k := 295) (d' := 3) (as := [vI i]) (r := r0) hd (by rw [e1]; decide +kernel) (mok (by omega)) (by decide +kernel) (by decide +kernel) (show (1 : Nat) = am_np 295 by decide +kernel) hlow (by omega) (Or.inr (by decide +kernel)) (x_charAt (by omega) hi hi2) hV
end P11S
