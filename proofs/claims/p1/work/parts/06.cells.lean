/-! Cells in a world; instructions on them, over the small machine's states -/
def kC (ci : Nat) : String := (am_cl.getD ci ("", F_0, 0)).1
def kT (ci : Nat) : u_T := (am_cl.getD ci ("", F_0, 0)).2.1
theorem c13 {P : Nat → Prop} (h0 : P 0) (h1 : P 1) (h2 : P 2) (h3 : P 3) (h4 : P 4) (h5 : P 5) (h6 : P 6) (h7 : P 7) (h8 : P 8) (h9 : P 9) (h10 : P 10) (h11 : P 11) (h12 : P 12) : ∀ ci, ci < 13 → P ci := by
  intro ci h
  match ci, h with
  | 0, _ => exact h0
  | 1, _ => exact h1
  | 2, _ => exact h2
  | 3, _ => exact h3
  | 4, _ => exact h4
  | 5, _ => exact h5
  | 6, _ => exact h6
  | 7, _ => exact h7
  | 8, _ => exact h8
  | 9, _ => exact h9
  | 10, _ => exact h10
  | 11, _ => exact h11
  | 12, _ => exact h12
theorem k_at : ∀ ci, ci < 13 → am_cl[ci]? = some (kC ci, kT ci, am_nf ci) := c13 rfl rfl rfl rfl rfl rfl rfl rfl rfl rfl rfl rfl rfl
theorem gd_lay {C : String} {T : u_T} {N : Nat} (h : ∀ w ∈ u_ws C T N, w ∈ lw_tbl) : ∀ w ∈ u_ws C T N, w ∈ gdW := by
  intro w hw
  refine gd_in (h w hw) ?_
  obtain ⟨k, -, rfl⟩ := List.mem_map.mp hw
  unfold u_lay
  split <;> rfl
theorem k_in : ∀ ci, ci < 13 → ∀ w ∈ u_ws (kC ci) (kT ci) (am_nf ci), w ∈ gdW := c13 (gd_lay i_0) (gd_lay i_1) (gd_lay i_2) (gd_lay i_3) (gd_lay i_4) (gd_lay i_5) (gd_lay i_6) (gd_lay i_7) (gd_lay i_8) (gd_lay i_9) (gd_lay i_10) (gd_lay i_11) (gd_lay i_12)
theorem k_nm : ∀ ci, ci < 13 → ∀ a, a < am_nf ci → ∀ b, b < am_nf ci → a ≠ b → (kT ci a).2.1 ≠ (kT ci b).2.1 := c13 n_0 n_1 n_2 n_3 n_4 n_5 n_6 n_7 n_8 n_9 n_10 n_11 n_12
theorem k_ty : ∀ ci, ci < 13 → ∀ k, k < am_nf ci → parseFieldDescriptor (kT ci k).2.2.1 = some (am_fty ci k) := c13 p_0 p_1 p_2 p_3 p_4 p_5 p_6 p_7 p_8 p_9 p_10 p_11 p_12
theorem map_mem {α : Type} {ps : List Nat} {xs : List α} {f : α → Cond} (h : ps.map (fun i => lw_tbl[i]?) = xs.map (fun q => some (f q))) : ∀ q ∈ xs, f q ∈ lw_tbl := by
  intro q hq
  have h1 : some (f q) ∈ xs.map (fun q => some (f q)) := List.mem_map.mpr ⟨q, hq, rfl⟩
  rw [← h] at h1
  obtain ⟨i, -, hi⟩ := List.mem_map.mp h1
  exact List.mem_of_getElem? hi
theorem fl_w {oc idx ci k : Nat} (h : (oc, idx, ci, k) ∈ am_fl) : Cond.fieldLink (am_own oc) idx (kT ci k).1 (kT ci k).2.1 (kT ci k).2.2.1 ∈ gdW := gd_in (map_mem am_fl_ok _ h) rfl
theorem fl_all : (am_fl.all fun q => Nat.blt q.2.2.1 13 && Nat.blt q.2.2.2 (am_nf q.2.2.1)) = true := by decide +kernel
theorem fl_b {oc idx ci k : Nat} (h : (oc, idx, ci, k) ∈ am_fl) : ci < 13 ∧ k < am_nf ci := by
  have h1 := List.all_eq_true.mp fl_all _ h
  rw [Bool.and_eq_true] at h1
  exact ⟨Nat.blt_eq.mp h1.1, Nat.blt_eq.mp h1.2⟩
theorem adr_in {G : EG} {a : Nat} (h : 3 ≤ a) : nwq G (adr G a) := by
  unfold nwq adr
  rw [if_neg (by omega)]
  omega
theorem adr_inj {G : EG} {a b : Nat} (ha : 3 ≤ a) (hb : 3 ≤ b) (h : adr G a = adr G b) : a = b := by
  unfold adr at h
  rw [if_neg (by omega), if_neg (by omega)] at h
  omega
theorem wd.tag {G : EG} {h : AH} {H : Heap} {s : State} {a t : Nat} (hw : wd G h H) (hK : Kw G s) (ht : hpT h a = t) (h9 : t ≠ 9) (h0 : t ≠ 0) : 3 ≤ a ∧ a < hpn h := by
  obtain ⟨-, -, -, -, hO, hE⟩ := hw
  obtain ⟨-, ⟨-, -, -, -, t0, t1, -, t2⟩, -⟩ := hK
  refine ⟨?_, ?_⟩
  · rcases Nat.lt_or_ge a 3 with hlt | hge
    · have hx := (hO a hlt).1
      rw [ht] at hx
      match a, hlt with
      | 0, _ => exact absurd (hx.trans t0) h0
      | 1, _ => exact absurd (hx.trans t1) h0
      | 2, _ => exact absurd (hx.trans t2) h9
    · exact hge
  · rcases Nat.lt_or_ge a (hpn h) with hlt | hge
    · exact hlt
    · exact absurd (ht.symm.trans (hE a hge)) h9
theorem wd.lt {G : EG} {h : AH} {H : Heap} {a t : Nat} (hw : wd G h H) (ht : hpT h a = t) (h9 : t ≠ 9) : a < hpn h := by
  rcases Nat.lt_or_ge a (hpn h) with hlt | hge
  · exact hlt
  · exact absurd (ht.symm.trans (hw.2.2.2.2.2 a hge)) h9
theorem toE_obj {G : EG} {h : AH} {a ci : Nat} (ht : hpT h a = 10 + ci) : toE G h a = .inr (ci, (List.range (am_nf ci)).map (am_fv G h a ci)) := by
  unfold toE
  rw [ht, Nat.add_comm 10 ci]
  show Sum.inr (ci + 10 - 10, (List.range (am_nf (ci + 10 - 10))).map (am_fv G h a (ci + 10 - 10))) = _
  rw [Nat.add_sub_cancel]
theorem toE_0 {G : EG} {h : AH} {a : Nat} (ht : hpT h a = 0) : toE G h a = .inl (gC G 0, hpL h a, .inl (hpI h a)) := by unfold toE; rw [ht]; rfl
theorem toE_1 {G : EG} {h : AH} {a : Nat} (ht : hpT h a = 1) : toE G h a = .inl (gC G 1, hpL h a, .inr (.inl (hpJ h a))) := by unfold toE; rw [ht]; rfl
theorem toE_2 {G : EG} {h : AH} {a : Nat} (ht : hpT h a = 2) : toE G h a = .inl (gC G 2, hpL h a, .inl (hpI h a)) := by unfold toE; rw [ht]; rfl
theorem toE_3 {G : EG} {h : AH} {a : Nat} (ht : hpT h a = 3) : toE G h a = .inl (gC G 3, hpL h a, .inl (hpI h a)) := by unfold toE; rw [ht]; rfl
theorem toE_4 {G : EG} {h : AH} {a : Nat} (ht : hpT h a = 4) : toE G h a = .inl (gC G 4, hpL h a, .inr (.inr (.inr (.inr (fun j => (hpR h a j).map (adr G)))))) := by unfold toE; rw [ht]; rfl
theorem toE_5 {G : EG} {h : AH} {a : Nat} (ht : hpT h a = 5) : toE G h a = .inl (gC G 5, hpL h a, .inr (.inr (.inr (.inr (fun j => (hpR h a j).map (adr G)))))) := by unfold toE; rw [ht]; rfl
theorem toE_congr {G : EG} {h h' : AH} {b : Nat} (hT : hpT h' b = hpT h b) (hL : hpL h' b = hpL h b) (hI : hpI h' b = hpI h b) (hJ : hpJ h' b = hpJ h b) (hR : hpR h' b = hpR h b) : toE G h' b = toE G h b := by
  have hf : ∀ ci, am_fv G h' b ci = am_fv G h b ci := by
    intro ci
    funext k
    unfold am_fv
    rw [hI, hR]
  unfold toE
  rw [hT, hL, hI, hJ, hR]
  simp only [hf]
/-- the same cells, tags and lengths -/
def Same (h h' : AH) : Prop := hpn h' = hpn h ∧ hps h' = hps h ∧ ∀ a, hpT h' a = hpT h a ∧ hpL h' a = hpL h a
theorem wd.put {G : EG} {h h' : AH} {H H1 : Heap} {a : Nat} (hw : wd G h H) (ha : 3 ≤ a) (hs : Same h h') (ho : ∀ b, b ≠ a → hpI h' b = hpI h b ∧ hpJ h' b = hpJ h b ∧ hpR h' b = hpR h b) (hat : va_at (gD G) am_cl (adr G a, toE G h' a) H1) (z : H1.size = H.size) (oq : ∀ q : Nat, q ≠ adr G a → H1[q]? = H[q]?) : wd G h' H1 := by
  obtain ⟨w1, w2, w3, w4, w5, w6⟩ := hw
  obtain ⟨s1, s2, s3⟩ := hs
  refine ⟨by rw [s1]; exact w1, by rw [s1, z]; exact w2, ?_, ?_, ?_, ?_⟩
  · intro k hk hk2
    rw [s1] at hk2
    by_cases hka : k = a
    · subst hka; exact hat
    · obtain ⟨o1, o2, o3⟩ := ho k hka
      rw [toE_congr (s3 k).1 (s3 k).2 o1 o2 o3]
      exact (w3 k hk hk2).kept (oq _ (fun e => hka (adr_inj hk ha e)))
  · intro q hq
    refine (oq q (fun e => ?_)).trans (w4 q hq)
    have := adr_in (G := G) ha
    unfold nwq at this
    omega
  · intro b hb
    obtain ⟨o1, -, -⟩ := ho b (by omega)
    exact ⟨(s3 b).1.trans (w5 b hb).1, (s3 b).2.trans (w5 b hb).2.1, fun j => by rw [o1]; exact (w5 b hb).2.2 j⟩
  · intro b hb
    rw [s1] at hb
    exact (s3 b).1.trans (w6 b hb)
section P6
variable {l : Launch} {G : EG} {d y pc pc' : Nat} {ls ls' : AL} {st st' : List AV} {h h' : AH} {q : RR}
/-- a step that changes cells, and makes none -/
theorem V.heap (hV : V l G d y pc' ls st' h' q) (he : Same h h')
    (hs : ∀ (p : Program) (e : Env) (R : Room) (s : State) (m : MethodId) (args : Array Value) (below : List Frame) (meth : Method) (c : Code) (H : Heap) (locs : List Loc) (cells slots : Nat) (lsM : Array Slot) (Q : State → Prop),
      CX G d y p R s m args meth c → wd G h H → va_S (nwq G) s.heap H locs → H.size = s.heap.size + cells → (∀ (H1 : Heap) (locs1 : List Loc), wd G h' H1 → va_S (nwq G) s.heap H1 locs1 → W p l e R s m args below meth c H1 locs1 cells slots Q (F0 m pc' lsM (st'.map (con G)))) → W p l e R s m args below meth c H locs cells slots Q (F0 m pc lsM (st.map (con G)))) : V l G d y pc ls st h q := by
  obtain ⟨e1, e2, e3⟩ := he
  refine ⟨⟨by rw [← e1]; exact hV.1.1, by rw [← e2]; exact hV.1.2.1, fun a ha => ?_⟩, ?_⟩
  · have := hV.1.2.2 a (by rw [e1]; exact ha)
    exact ⟨this.1.trans (e3 a).1, this.2.trans (e3 a).2⟩
  intro p e R s m args below meth c H locs cells slots lsM mc ms hC h1 h2 h3 h4 hz h5 h6 h7
  exact hs p e R s m args below meth c H locs cells slots lsM _ hC h5 h6 hz fun H1 locs1 k1 k2 => hV.2 p e R s m args below meth c H1 locs1 cells slots lsM mc ms hC h1 h2 (by rw [e1]; exact h3) (by rw [e2]; exact h4) (by rw [← hz, h5.2.1, k1.2.1, e1]) k1 k2 h7
theorem fs_get {ci a k : Nat} (hk : k < am_nf ci) : ((List.range (am_nf ci)).map (am_fv G h a ci))[k]? = some (am_fv G h a ci k) := by
  rw [List.getElem?_map, List.getElem?_range hk]; rfl
theorem fv_I {ci a k : Nat} (ht : am_ft (am_fty ci k) = 1 ∨ am_ft (am_fty ci k) = 2) : am_fv G h a ci k = .int (hpI h a k) := by
  unfold am_fv
  rcases ht with e | e <;> rw [e] <;> rfl
theorem fv_R {ci a k : Nat} (ht : am_ft (am_fty ci k) = 3) : am_fv G h a ci k = con G (vR (hpR h a k)) := by
  unfold am_fv
  rw [ht]; rfl
theorem s_getI {a ci k idx : Nat} (hd : decode (mBy y) pc = .ok (.getfield idx, 3)) (hq : (mOc y, idx, ci, k) ∈ am_fl) (hty : am_ft (am_fty ci k) = 1 ∨ am_ft (am_fty ci k) = 2) (ht : hpT h a = 10 + ci) (hV : V l G d y (pc + 3) ls (vI (hpI h a k) :: st) h q) : V l G d y pc ls (vR (some a) :: st) h q := hV.pure fun p e R s m args below meth c H locs cells slots lsM Q hC hw hS hl kk => by
  obtain ⟨hb1, hb2⟩ := fl_b hq
  obtain ⟨h3, hn⟩ := hw.tag hC.2.2.2.2.1 ht (by omega) (by omega)
  have hat := hw.2.2.1 a h3 hn
  rw [toE_obj ht] at hat
  exact va_get (C := kC ci) (T := kT ci) (N := am_nf ci) hC.1.1 hC.1.2.1 hC.2.2.2.1 (k_in ci hb1) hC.2.2.1 hC.2.2.2.2.1.1 (va_one hat) 0 rfl (k_at ci hb1) k hb2 (hC.2.2.2.1 _ (fl_w hq)) (fun x hx => hx) ((fs_get hb2).trans (congrArg some (fv_I hty))) hd (kk lsM hl)
theorem s_getR {a ci k idx : Nat} (hd : decode (mBy y) pc = .ok (.getfield idx, 3)) (hq : (mOc y, idx, ci, k) ∈ am_fl) (hty : am_ft (am_fty ci k) = 3) (ht : hpT h a = 10 + ci) (hV : V l G d y (pc + 3) ls (vR (hpR h a k) :: st) h q) : V l G d y pc ls (vR (some a) :: st) h q := hV.pure fun p e R s m args below meth c H locs cells slots lsM Q hC hw hS hl kk => by
  obtain ⟨hb1, hb2⟩ := fl_b hq
  obtain ⟨h3, hn⟩ := hw.tag hC.2.2.2.2.1 ht (by omega) (by omega)
  have hat := hw.2.2.1 a h3 hn
  rw [toE_obj ht] at hat
  exact va_get (C := kC ci) (T := kT ci) (N := am_nf ci) hC.1.1 hC.1.2.1 hC.2.2.2.1 (k_in ci hb1) hC.2.2.1 hC.2.2.2.2.1.1 (va_one hat) 0 rfl (k_at ci hb1) k hb2 (hC.2.2.2.1 _ (fl_w hq)) (fun x hx => hx) ((fs_get hb2).trans (congrArg some (fv_R hty))) hd (kk lsM hl)
theorem Same.I (h : AH) (a i : Nat) (x : Int32) : Same h (wrI h a i x) := ⟨rfl, rfl, fun _ => ⟨rfl, rfl⟩⟩
theorem Same.J (h : AH) (a i : Nat) (x : Int64) : Same h (wrJ h a i x) := ⟨rfl, rfl, fun _ => ⟨rfl, rfl⟩⟩
theorem Same.R (h : AH) (a i : Nat) (x : Option Nat) : Same h (wrR h a i x) := ⟨rfl, rfl, fun _ => ⟨rfl, rfl⟩⟩
theorem I_ne {a i b : Nat} {x : Int32} (hb : b ≠ a) : hpI (wrI h a i x) b = hpI h b := by funext j; show (if b = a ∧ j = i then x else hpI h b j) = _; rw [if_neg (fun z => hb z.1)]
theorem J_ne {a i b : Nat} {x : Int64} (hb : b ≠ a) : hpJ (wrJ h a i x) b = hpJ h b := by funext j; show (if b = a ∧ j = i then x else hpJ h b j) = _; rw [if_neg (fun z => hb z.1)]
theorem R_ne {a i b : Nat} {x : Option Nat} (hb : b ≠ a) : hpR (wrR h a i x) b = hpR h b := by funext j; show (if b = a ∧ j = i then x else hpR h b j) = _; rw [if_neg (fun z => hb z.1)]
theorem I_at {a i j : Nat} {x : Int32} : hpI (wrI h a i x) a j = if j = i then x else hpI h a j := by
  show (if a = a ∧ j = i then x else hpI h a j) = _
  by_cases e : j = i
  · rw [if_pos ⟨rfl, e⟩, if_pos e]
  · rw [if_neg (fun z => e z.2), if_neg e]
theorem J_at {a i j : Nat} {x : Int64} : hpJ (wrJ h a i x) a j = if j = i then x else hpJ h a j := by
  show (if a = a ∧ j = i then x else hpJ h a j) = _
  by_cases e : j = i
  · rw [if_pos ⟨rfl, e⟩, if_pos e]
  · rw [if_neg (fun z => e z.2), if_neg e]
theorem R_at {a i j : Nat} {x : Option Nat} : hpR (wrR h a i x) a j = if j = i then x else hpR h a j := by
  show (if a = a ∧ j = i then x else hpR h a j) = _
  by_cases e : j = i
  · rw [if_pos ⟨rfl, e⟩, if_pos e]
  · rw [if_neg (fun z => e z.2), if_neg e]
theorem fs_set {h' : AH} {ci a k : Nat} {v : Value} (hk : k < am_nf ci) (hv : am_fv G h' a ci k = v) (ho : ∀ j, j ≠ k → am_fv G h' a ci j = am_fv G h a ci j) : ((List.range (am_nf ci)).map (am_fv G h a ci)).set k v = (List.range (am_nf ci)).map (am_fv G h' a ci) := by
  apply List.ext_getElem?
  intro j
  by_cases hj : j = k
  · subst hj
    rw [List.getElem?_set_self (by simpa using hk), fs_get hk, hv]
  · rw [List.getElem?_set_ne (fun z => hj z.symm)]
    by_cases hjn : j < am_nf ci
    · rw [fs_get hjn, fs_get hjn, ho j hj]
    · rw [List.getElem?_eq_none (by simpa using hjn), List.getElem?_eq_none (by simpa using hjn)]
theorem s_putI {a ci k idx : Nat} {x : Int32} (hd : decode (mBy y) pc = .ok (.putfield idx, 3)) (hq : (mOc y, idx, ci, k) ∈ am_fl) (hfin : (kT ci k).2.2.2 = false ∨ ((mNm y).name = "<init>" ∧ (kT ci k).1 = am_own (mOc y))) (hty : am_ft (am_fty ci k) = 1 ∨ (am_ft (am_fty ci k) = 2 ∧ (x = 0 ∨ x = 1))) (ht : hpT h a = 10 + ci) (hV : V l G d y (pc + 3) ls st (wrI h a k x) q) : V l G d y pc ls (vI x :: vR (some a) :: st) h q := by
  refine hV.heap (Same.I h a k x) fun p e R s m args below meth c H locs cells slots lsM Q hC hw hS hz kk => ?_
  obtain ⟨hb1, hb2⟩ := fl_b hq
  obtain ⟨h3, hn⟩ := hw.tag hC.2.2.2.2.1 ht (by omega) (by omega)
  have hat := hw.2.2.1 a h3 hn
  rw [toE_obj ht] at hat
  have hnar : narrow (am_fty ci k) (.int x) = .int x ∧ fits (am_fty ci k) (.int x) = true := by
    rcases hty with e | ⟨e, e2⟩
    · cases hf : am_fty ci k <;> rw [hf] at e <;> simp [am_ft] at e
      exact ⟨rfl, rfl⟩
    · cases hf : am_fty ci k <;> rw [hf] at e <;> simp [am_ft] at e
      rcases e2 with rfl | rfl <;> exact ⟨rfl, rfl⟩
  refine aw_put (C := kC ci) (T := kT ci) (N := am_nf ci) hC.1.1 hC.1.2.1 hC.2.2.2.1 (k_in ci hb1) (am_fty ci) (k_ty ci hb1) (k_nm ci hb1) hC.2.2.1 hC.2.2.2.2.1.1 hat (k_at ci hb1) k hb2 (hC.2.2.2.1 _ (fl_w hq)) (hfin.imp id fun z => ⟨hC.2.1.2.2.trans z.1, z.2⟩) hnar.1 hnar.2 (by simpa using hb2) hd fun H1 j e1 e2 e3 => ?_
  refine kk H1 _ (hw.put h3 (Same.I h a k x) (fun b hb => ⟨I_ne hb, rfl, rfl⟩) ?_ e2 e3) (hS.put e2 e3 (adr_in h3))
  rw [toE_obj (h := wrI h a k x) ht]
  rw [fs_set (h' := wrI h a k x) hb2 (by rw [fv_I (hty.imp id And.left), I_at, if_pos rfl]; rfl) (fun j hj => by unfold am_fv; rw [I_at, if_neg hj]; rfl)] at e1
  exact e1
theorem s_putR {a ci k idx : Nat} {x : Option Nat} (hd : decode (mBy y) pc = .ok (.putfield idx, 3)) (hq : (mOc y, idx, ci, k) ∈ am_fl) (hfin : (kT ci k).2.2.2 = false ∨ ((mNm y).name = "<init>" ∧ (kT ci k).1 = am_own (mOc y))) (hty : am_ft (am_fty ci k) = 3) (ht : hpT h a = 10 + ci) (hV : V l G d y (pc + 3) ls st (wrR h a k x) q) : V l G d y pc ls (vR x :: vR (some a) :: st) h q := by
  refine hV.heap (Same.R h a k x) fun p e R s m args below meth c H locs cells slots lsM Q hC hw hS hz kk => ?_
  obtain ⟨hb1, hb2⟩ := fl_b hq
  obtain ⟨h3, hn⟩ := hw.tag hC.2.2.2.2.1 ht (by omega) (by omega)
  have hat := hw.2.2.1 a h3 hn
  rw [toE_obj ht] at hat
  have hnar : narrow (am_fty ci k) (con G (vR x)) = con G (vR x) ∧ fits (am_fty ci k) (con G (vR x)) = true := by
    cases hf : am_fty ci k <;> rw [hf] at hty <;> simp [am_ft] at hty <;> cases x <;> exact ⟨rfl, rfl⟩
  refine aw_put (C := kC ci) (T := kT ci) (N := am_nf ci) hC.1.1 hC.1.2.1 hC.2.2.2.1 (k_in ci hb1) (am_fty ci) (k_ty ci hb1) (k_nm ci hb1) hC.2.2.1 hC.2.2.2.2.1.1 hat (k_at ci hb1) k hb2 (hC.2.2.2.1 _ (fl_w hq)) (hfin.imp id fun z => ⟨hC.2.1.2.2.trans z.1, z.2⟩) hnar.1 hnar.2 (by simpa using hb2) hd fun H1 j e1 e2 e3 => ?_
  refine kk H1 _ (hw.put h3 (Same.R h a k x) (fun b hb => ⟨rfl, rfl, R_ne hb⟩) ?_ e2 e3) (hS.put e2 e3 (adr_in h3))
  rw [toE_obj (h := wrR h a k x) ht]
  rw [fs_set (h' := wrR h a k x) hb2 (by rw [fv_R hty, R_at, if_pos rfl]) (fun j hj => by unfold am_fv; rw [R_at, if_neg hj]; rfl)] at e1
  exact e1
end P6
