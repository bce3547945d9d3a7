/-! Copies; what is checked of an instruction; a step is sound; a stretch is sound (by program, wip/whole/gen12.py) -/
section P12
variable {l : Launch} {G : EG} {d y pc pc' : Nat} {ls ls' : AL} {st st' : List AV} {h h' : AH} {q : RR}
theorem aw_copy {p : Program} {e : Env} {R : Room} {s : State} {m : MethodId} {args : Array Value} {below : List Frame} {meth : Method} {c : Code} {H : Heap} {locs : List Loc} {cells slots : Nat} {Q : State → Prop} {cc : ByteArray} {lsM : Array Slot} {rest : List Value} {D : va_G} {cl : List vw_C} {a a0 : Nat} {tys : List (ClassId × FieldType)} (hexec : p.tables.exec = Jvm.exec) (hb : c.code = cc) (hml : c.maxLocals = lsM.size) {own : String} {index : Nat} (hown : s.vm.findClass own = some m.cls) (hlink : (Cond.methodLink own index arraycopyName).before args s = true) (hnat : (Cond.native arraycopyName).before args s = true) (hstat : (Cond.static arraycopyName).before args s = true) (hini : (Cond.initialized "java/lang/System").before args s = true)
    (hK : va_K D cl tys s) (t0 : Nat) {c0 : ClassId} {n0 n1 : Nat} {f g : Nat → Int32} (ha0 : va_at D cl (a0, .inl (c0, n0, .inl f)) H) (ha1 : va_at D cl (a, .inl (c0, n1, .inl g)) H) (ht0 : tys[t0]? = some (c0, .int))
    {sp dp n : Int32} (h1 : ¬ sp < 0) (h2 : ¬ dp < 0) (h3 : ¬ n < 0) (h4 : sp.toNatClampNeg + n.toNatClampNeg ≤ n0) (h5 : dp.toNatClampNeg + n.toNatClampNeg ≤ n1)
    (hframes : 1 ≤ R.frames) (hlocals : (rest.map fun v => v.category).sum + (nativeFrameWords "java/lang/System" "arraycopy" 5 + 11) ≤ R.locals) (hdg : decode cc pc = .ok (.invokestatic index, 3))
    (kk : ∀ (H1 : Heap) (locs1 : List Loc), va_at D cl (a, .inl (c0, n1, .inl (va_cpy f g sp.toNatClampNeg dp.toNatClampNeg n.toNatClampNeg))) H1 → H1.size = H.size → (∀ q : Nat, q ≠ a → H1[q]? = H[q]?) → (∀ z ∈ locs1, z ∈ locs ∨ z.base = a) → W p l e R s m args below meth c H1 locs1 cells slots Q (F0 m (pc + 3) lsM rest)) : W p l e R s m args below meth c H locs cells slots Q (F0 m pc lsM (.int n :: .int dp :: .ref a :: .int sp :: .ref a0 :: rest)) := by
  have nn : ∀ z : Int32, ¬ z < 0 → z.toInt = (z.toNatClampNeg : Int) := by
    intro z hz
    have hz0 : (0 : Int) ≤ z.toInt := by
      have := Int32.not_lt.mp hz
      simpa using Int32.le_iff_toInt_le.mp this
    show z.toInt = ((z.toInt.toNat : Nat) : Int)
    omega
  intro T hT X
  have hc0 : H[a0]? = some (vp_cell c0 (n0, .inl f)) := ha0
  have hc1 : H[a]? = some (vp_cell c0 (n1, .inl g)) := ha1
  obtain ⟨-, k0, hk0, cm0, hkk0⟩ := (hK.2 t0 _ ht0).1 n0 (fun j => .int (f j))
  obtain ⟨-, k1, hk1, cm1, hkk1⟩ := (hK.2 t0 _ ht0).1 n1 (fun j => .int (g j))
  obtain ⟨vm', X', step⟩ := X.arraycopy hexec hown hlink hnat hstat hini (src := a0) (dst := a) (cs := vp_cell c0 (n0, .inl f)) (cd := vp_cell c0 (n1, .inl g)) (srcPos := sp) (destPos := dp) (n := n) (by rw [hT]; exact hc0) (by rw [hT]; exact hc1)
    (fun _ h => by cases h) (fun _ h => by cases h) (fun h => by cases h) (fun h => by cases h) hk0 hk1 hkk0 hkk1 (by simp [refKind]) h1 h2 h3
    (by rw [nn sp h1, nn n h3]; show ¬ _ > ((arrV c0 n0 (fun j => .int (f j))).slots.size : Int); rw [arrV_size]; omega)
    (by rw [nn dp h2, nn n h3]; show ¬ _ > ((arrV c0 n1 (fun j => .int (g j))).slots.size : Int); rw [arrV_size]; omega)
    (fun vm₁ _ i hi => by
      have e : (vp_cell c0 (n0, .inl f)).slots.getD (sp.toNatClampNeg + i) .null = .int (f (sp.toNatClampNeg + i)) := by
        show (arrV c0 n0 (fun j => .int (f j))).slots.getD _ _ = _
        rw [Array.getD_eq_getD_getElem?, arrV_read _ _ (by omega)]
        rfl
      refine ⟨?_, ?_⟩
      · rw [e]
        rfl
      · rw [e]
        exact trivial)
    (g := F0 m pc lsM (.int n :: .int dp :: .ref a :: .int sp :: .ref a0 :: rest)) rfl (by rw [hml]) (rest := rest) rfl (by rw [hb]; exact hdg) hframes (by show 2 * 0 + _ + _ ≤ _; omega)
  have e1 : copied (vp_cell c0 (n0, .inl f)) (vp_cell c0 (n1, .inl g)) sp dp n = vp_cell c0 (n1, .inl (va_cpy f g sp.toNatClampNeg dp.toNatClampNeg n.toNatClampNeg)) := va_copied (fun z => .int z) c0 c0 f g h4
  rw [e1] at X' step
  have hl : a < H.size := (Array.getElem?_eq_some_iff.mp hc1).1
  have hheap : ((T.setVm vm').setCell a (vp_cell c0 (n1, .inl (va_cpy f g sp.toNatClampNeg dp.toNatClampNeg n.toNatClampNeg)))).heap = H.setIfInBounds a (vp_cell c0 (n1, .inl (va_cpy f g sp.toNatClampNeg dp.toNatClampNeg n.toNatClampNeg))) := by rw [← hT]; rfl
  have oq : ∀ q : Nat, q ≠ a → (H.setIfInBounds a (vp_cell c0 (n1, .inl (va_cpy f g sp.toNatClampNeg dp.toNatClampNeg n.toNatClampNeg))))[q]? = H[q]? := fun q hq => by simp [Array.getElem?_setIfInBounds, Ne.symm hq]
  obtain ⟨t, a1, b1⟩ := kk _ _ (show (H.setIfInBounds a _)[a]? = some _ by simp [Array.getElem?_setIfInBounds, hl]) (by simp) oq (fun z hz => by
      rcases List.mem_append.mp hz with h | h
      · exact Or.inl h
      · obtain ⟨x, -, hx⟩ := List.mem_map.mp h
        rw [← hx]
        exact Or.inr rfl) _ hheap X'
  exact ⟨t, step t a1, b1⟩
def am_ac : List (Nat × Nat) := [(9, 46), (1, 64), (4, 22), (10, 57)]
theorem ac_ok : [852, 864, 869, 1078].map (fun i => lw_tbl[i]?) = am_ac.map (fun q => some (Cond.methodLink (am_own q.1) q.2 arraycopyName)) := by decide +kernel
theorem ac_n : Cond.native arraycopyName ∈ gdW := gd_in (List.mem_of_getElem? (i := 854) (by decide +kernel)) rfl
theorem ac_s : Cond.static arraycopyName ∈ gdW := gd_in (List.mem_of_getElem? (i := 853) (by decide +kernel)) rfl
theorem ac_i : Cond.initialized "java/lang/System" ∈ gdW := gd_in (List.mem_of_getElem? (i := 152) (by decide +kernel)) rfl
theorem ac_w : nativeFrameWords "java/lang/System" "arraycopy" 5 + 11 ≤ 56 := by decide +kernel
theorem Same.cp (h : AH) (a i b j n : Nat) : Same h (cpI h a i b j n) := ⟨rfl, rfl, fun _ => ⟨rfl, rfl⟩⟩
theorem cp_ne {a i b j n x : Nat} (hx : x ≠ b) : hpI (cpI h a i b j n) x = hpI h x := by funext k; show (if x = b ∧ j ≤ k ∧ k < j + n then _ else hpI h x k) = _; rw [if_neg (fun z => hx z.1)]
theorem cp_at {a i b j n : Nat} : va_cpy (hpI h a) (hpI h b) i j n = hpI (cpI h a i b j n) b := by
  funext k
  show (if j ≤ k ∧ k < j + n then _ else _) = (if b = b ∧ j ≤ k ∧ k < j + n then _ else hpI h b k)
  by_cases e : j ≤ k ∧ k < j + n
  · rw [if_pos e, if_pos ⟨rfl, e⟩]; rfl
  · rw [if_neg e, if_neg (fun z => e z.2)]
theorem s_acp {idx a b : Nat} {i j n : Int32} (hd : decode (mBy y) pc = .ok (.invokestatic idx, 3)) (hl : (mOc y, idx) ∈ am_ac) (hta : hpT h a = 0) (htb : hpT h b = 0) (h3a : 3 ≤ a) (h3b : 3 ≤ b) (h1 : ¬ i < 0) (h2 : ¬ j < 0) (h3 : ¬ n < 0) (h4 : i.toNatClampNeg + n.toNatClampNeg ≤ hpL h a) (h5 : j.toNatClampNeg + n.toNatClampNeg ≤ hpL h b) (hlow : am_low st = true) (hdd : 1 ≤ d) (hV : V l G d y (pc + 3) ls st (cpI h a i.toNatClampNeg b j.toNatClampNeg n.toNatClampNeg) q) : V l G d y pc ls (vI n :: vI j :: vR (some b) :: vI i :: vR (some a) :: st) h q := by
  refine ⟨⟨hV.1.1, hV.1.2.1, hV.1.2.2⟩, ?_⟩
  intro p e R s m args below meth c H locs cells slots lsM mc ms hC c1 c2 c3 c4 hz hw hS hlv
  have hat := hw.2.2.1 a h3a (hw.lt hta (by decide))
  have hbt := hw.2.2.1 b h3b (hw.lt htb (by decide))
  rw [toE_0 hta] at hat
  rw [toE_0 htb] at hbt
  have hf := hC.2.2.2.2.2.2.1
  have hlo := hC.2.2.2.2.2.2.2
  have h8 := low_8 (G := G) hlow
  have h56 := ac_w
  refine aw_copy hC.1.1 hC.1.2.1 (hC.1.2.2.trans hlv.1.symm) hC.2.2.1 (hC.2.2.2.1 _ (gd_in (map_mem ac_ok _ hl) rfl)) (hC.2.2.2.1 _ ac_n) (hC.2.2.2.1 _ ac_s) (hC.2.2.2.1 _ ac_i) hC.2.2.2.2.1.1 0 hat hbt (ty_0 G) h1 h2 h3 h4 h5 (by omega) (by omega) hd fun H1 locs1 e1 e2 e3 e4 => ?_
  have hw1 : wd G (cpI h a i.toNatClampNeg b j.toNatClampNeg n.toNatClampNeg) H1 := by
    refine hw.put h3b (Same.cp h a _ b _ _) (fun x hx => ⟨cp_ne hx, rfl, rfl⟩) ?_ e2 e3
    rw [toE_0 (h := cpI h a i.toNatClampNeg b j.toNatClampNeg n.toNatClampNeg) htb, ← cp_at]
    exact e1
  have hS1 : va_S (nwq G) s.heap H1 locs1 := ⟨by rw [e2]; exact hS.1, fun x hx1 hx2 => (e3 x (fun z => hx2 (by rw [z]; exact adr_in h3b))).trans (hS.2.1 x hx1 hx2), fun z hz => (e4 z hz).elim (hS.2.2 z) (fun w => by rw [w]; exact adr_in h3b)⟩
  exact hV.2 p e R s m args below meth c H1 locs1 cells slots lsM mc ms hC c1 c2 c3 c4 (by rw [e2]; exact hz) hw1 hS1 hlv
def am_mx : List (Nat × Nat) := [(6, 40), (0, 84), (4, 51), (3, 82)]
def am_mi : List (Nat × Nat) := [(6, 24), (0, 79), (5, 52), (2, 74), (4, 45)]
theorem mx_ok : [615, 628, 977, 1040].map (fun i => lw_tbl[i]?) = am_mx.map (fun q => some (Cond.methodLink (am_own q.1) q.2 Lib.Math.max.name)) := by decide +kernel
theorem mi_ok : [611, 627, 705, 924, 929].map (fun i => lw_tbl[i]?) = am_mi.map (fun q => some (Cond.methodLink (am_own q.1) q.2 Lib.Math.min.name)) := by decide +kernel
theorem mx_s : Cond.static Lib.Math.max.name ∈ gdW := gd_in (List.mem_of_getElem? (i := 616) (by decide +kernel)) rfl
theorem mi_s : Cond.static Lib.Math.min.name ∈ gdW := gd_in (List.mem_of_getElem? (i := 612) (by decide +kernel)) rfl
theorem mx_c : Cond.code Lib.Math.max.name Lib.Math.max.code 2 (some .int) ∈ gdW := gd_in (List.mem_of_getElem? (i := 617) (by decide +kernel)) rfl
theorem mi_c : Cond.code Lib.Math.min.name Lib.Math.min.code 2 (some .int) ∈ gdW := gd_in (List.mem_of_getElem? (i := 613) (by decide +kernel)) rfl
theorem mm_i : Cond.initialized "java/lang/Math" ∈ gdW := gd_in (List.mem_of_getElem? (i := 146) (by decide +kernel)) rfl
theorem s_max {idx : Nat} {a b : Int32} (hd : decode (mBy y) pc = .ok (.invokestatic idx, 3)) (hl : (mOc y, idx) ∈ am_mx) (hlow : am_low st = true) (hdd : 1 ≤ d) (hV : V l G d y (pc + 3) ls (vI (jmax a b) :: st) h q) : V l G d y pc ls (vI b :: vI a :: st) h q := by
  refine ⟨hV.1, ?_⟩
  intro p e R s m args below meth c H locs cells slots lsM mc ms hC c1 c2 c3 c4 hz hw hS hlv
  have hf := hC.2.2.2.2.2.2.1
  have hlo := hC.2.2.2.2.2.2.2
  have h8 := low_8 (G := G) hlow
  exact va_mmax hC.1.1 hC.1.2.1 (hC.1.2.2.trans hlv.1.symm) hC.2.2.1 (hC.2.2.2.1 _ (gd_in (map_mem mx_ok _ hl) rfl)) (hC.2.2.2.1 _ mx_s) (hC.2.2.2.1 _ mm_i) (hC.2.2.2.1 _ mx_c) (by omega) (by omega) (by omega) (by omega) hd (hV.2 p e R s m args below meth c H locs cells slots lsM mc ms hC c1 c2 c3 c4 hz hw hS hlv)
theorem s_min {idx : Nat} {a b : Int32} (hd : decode (mBy y) pc = .ok (.invokestatic idx, 3)) (hl : (mOc y, idx) ∈ am_mi) (hlow : am_low st = true) (hdd : 1 ≤ d) (hV : V l G d y (pc + 3) ls (vI (jmin a b) :: st) h q) : V l G d y pc ls (vI b :: vI a :: st) h q := by
  refine ⟨hV.1, ?_⟩
  intro p e R s m args below meth c H locs cells slots lsM mc ms hC c1 c2 c3 c4 hz hw hS hlv
  have hf := hC.2.2.2.2.2.2.1
  have hlo := hC.2.2.2.2.2.2.2
  have h8 := low_8 (G := G) hlow
  exact va_mmin hC.1.1 hC.1.2.1 (hC.1.2.2.trans hlv.1.symm) hC.2.2.1 (hC.2.2.2.1 _ (gd_in (map_mem mi_ok _ hl) rfl)) (hC.2.2.2.1 _ mi_s) (hC.2.2.2.1 _ mm_i) (hC.2.2.2.1 _ mi_c) (by omega) (by omega) (by omega) (by omega) hd (hV.2 p e R s m args below meth c H locs cells slots lsM mc ms hC c1 c2 c3 c4 hz hw hS hlv)
def am_len (i : Instr) : Nat := match i with
  | .iload _ | .lload _ | .aload _ | .istore _ | .lstore _ | .astore _ | .bipush _ | .ldc _ | .newarray _ => 2
  | .sipush _ | .iinc _ _ | .goto _ | .ifCond _ _ | .if_icmp _ _ | .ifnull _ | .ifnonnull _ | .getfield _ | .putfield _ | .getstatic _ | .ldc_w _ | .ldc2_w _ | .new _ | .anewarray _ | .invokevirtual _ | .invokestatic _ | .invokespecial _ => 3
  | .tableswitch _ _ _ _ => 0
  | _ => 1
def rtc (k : Nat) : Nat := match am_rt k with
  | 4 => 1
  | x => x
def am_lk (y pc : Nat) (i : Instr) (r1 r2 r3 : Nat) (r4 : Int) : Bool := match i with
  | .goto off => decide (0 ≤ (pc : Int) + off)
  | .ifCond _ off => decide (0 ≤ (pc : Int) + off)
  | .if_icmp _ off => decide (0 ≤ (pc : Int) + off)
  | .ifnull off => decide (0 ≤ (pc : Int) + off)
  | .ifnonnull off => decide (0 ≤ (pc : Int) + off)
  | .tableswitch dflt lo hi offs => decide (lo + (offs.size : Int) = hi + 1) && (dflt :: offs.toList).all fun o => decide (0 ≤ (pc : Int) + o)
  | .getfield idx => am_fl.contains (mOc y, idx, r1, r2) && ((Nat.beq r3 1 && (Nat.beq (am_ft (am_fty r1 r2)) 1 || Nat.beq (am_ft (am_fty r1 r2)) 2)) || (Nat.beq r3 3 && Nat.beq (am_ft (am_fty r1 r2)) 3))
  | .putfield idx => am_fl.contains (mOc y, idx, r1, r2) && Nat.beq r3 (am_ft (am_fty r1 r2)) && ((!(kT r1 r2).2.2.2) || (decide ((mNm y).name = "<init>") && decide ((kT r1 r2).1 = am_own (mOc y))))
  | .ldc idx => (Nat.beq r1 0 && am_ci.contains (mOc y, idx, r4)) || (Nat.beq r1 1 && Nat.beq (mOc y) 5 && Nat.beq idx 78)
  | .ldc_w idx => am_ci.contains (mOc y, idx, r4)
  | .ldc2_w idx => am_cj.contains (mOc y, idx, r4)
  | .getstatic idx => (Nat.beq (mOc y) 11 && Nat.beq idx 162) || (Nat.beq (mOc y) 1 && Nat.beq idx 37) || (Nat.beq (mOc y) 2 && Nat.beq idx 52)
  | .new idx => am_kl.contains (mOc y, idx, r1) && Nat.blt r1 13
  | .newarray t => match t with
    | .int => Nat.beq r1 0
    | .long => Nat.beq r1 1
    | .byte => Nat.beq r1 2
    | .boolean => Nat.beq r1 3
    | _ => false
  | .anewarray idx => (Nat.beq r1 4 && am_kl.contains (mOc y, idx, 9)) || (Nat.beq r1 5 && am_kl.contains (mOc y, idx, 1))
  | .invokevirtual idx => (Nat.beq r1 996 && am_sl.contains (mOc y, idx)) || (Nat.beq r1 995 && am_sc.contains (mOc y, idx)) || (!(Nat.beq r1 996) && !(Nat.beq r1 995) && am_ml.contains (mOc y, idx, r1) && Nat.beq (mKd r1) 0 && Nat.blt (mOc r1) 13 && decide (r4 = (mOc r1 : Int)) && Nat.beq r2 (am_np r1 + 1) && Nat.beq r3 (rtc r1))
  | .invokestatic idx => (Nat.beq r1 999 && am_ac.contains (mOc y, idx)) || (Nat.beq r1 998 && am_mx.contains (mOc y, idx)) || (Nat.beq r1 997 && am_mi.contains (mOc y, idx)) || (!(Nat.beq r1 999) && !(Nat.beq r1 998) && !(Nat.beq r1 997) && am_ml.contains (mOc y, idx, r1) && Nat.beq (mKd r1) 1 && Nat.beq r2 (am_np r1) && Nat.beq r3 (rtc r1))
  | .invokespecial idx => (Nat.beq r1 999 && am_oi.contains (mOc y, idx)) || (!(Nat.beq r1 999) && (am_ml.contains (mOc y, idx, r1) || am_mn.contains (mOc y, idx, r1)) && Nat.beq (mKd r1) 2 && Nat.beq r2 (am_np r1 + 1) && decide (mRt r1 = none))
  | _ => true
def okE (y : Nat) (e : AE) : Bool := decide (decode (mBy y) e.1 = .ok (e.2.1, e.2.2.1)) && (Nat.beq (am_len e.2.1) 0 || Nat.beq (am_len e.2.1) e.2.2.1) && am_lk y e.1 e.2.1 e.2.2.2.1 e.2.2.2.2.1 e.2.2.2.2.2.1 e.2.2.2.2.2.2
/-- instructions follow each other -/
def am_wf : AC → Bool
  | [] => true
  | [_] => true
  | e :: x :: t => Nat.beq x.1 (e.1 + e.2.2.1) && am_wf (x :: t)
theorem drop_hd : ∀ (cd : AC) (k : Nat) (x : AE) (tl : AC), am_drop cd k = x :: tl → x.1 = k
  | [], k, x, tl, e => by cases e
  | c :: t, k, x, tl, e => by
    unfold am_drop at e
    cases hb : Nat.beq c.1 k with
    | true => rw [hb] at e; cases e; exact Nat.eq_of_beq_eq_true hb
    | false => rw [hb] at e; exact drop_hd t k x tl e
theorem pop_sp : ∀ (n : Nat) (st acc xs rest : List AV), am_pop n st acc = some (xs, rest) → ∃ ys, ys.length = n ∧ xs = ys.reverse ++ acc ∧ st = ys ++ rest
  | 0, st, acc, xs, rest, e => by cases e; exact ⟨[], rfl, rfl, rfl⟩
  | n + 1, [], acc, xs, rest, e => by cases e
  | n + 1, v :: st, acc, xs, rest, e => by
    obtain ⟨ys, h1, h2, h3⟩ := pop_sp n st (v :: acc) xs rest e
    exact ⟨v :: ys, by rw [List.length_cons, h1], by rw [h2, List.reverse_cons, List.append_assoc]; rfl, by rw [h3]; rfl⟩
theorem pop_cons {n : Nat} {st xs rest : List AV} {v : AV} (e : am_pop n st [] = some (v :: xs, rest)) : st = xs.reverse ++ v :: rest ∧ xs.length + 1 = n := by
  obtain ⟨ys, h1, h2, h3⟩ := pop_sp n st [] _ rest e
  rw [List.append_nil] at h2
  have h4 : ys = (v :: xs).reverse := by rw [h2, List.reverse_reverse]
  refine ⟨by rw [h3, h4, List.reverse_cons, List.append_assoc]; rfl, ?_⟩
  rw [← h1, h4, List.length_reverse, List.length_cons]
theorem pop_all {n : Nat} {st xs rest : List AV} (e : am_pop n st [] = some (xs, rest)) : st = xs.reverse ++ rest ∧ xs.length = n := by
  obtain ⟨ys, h1, h2, h3⟩ := pop_sp n st [] _ rest e
  rw [List.append_nil] at h2
  have h4 : ys = xs.reverse := by rw [h2, List.reverse_reverse]
  exact ⟨by rw [h3, h4], by rw [← h1, h4, List.length_reverse]⟩
theorem call_some {rt : Nat} {o : Option RR} {t : AC} {Gf : AG} (e : am_call rt o t ls st Gf = some q) : ∃ q1, o = some q1 := by
  cases o with
  | none =>
    unfold am_call at e
    split at e <;> cases e
  | some q1 => exact ⟨q1, rfl⟩
theorem call_sp {k rt : Nat} {o : Option RR} {t : AC} {Gf : AG} (hr : rt = rtc k) (hk : am_rt k ≤ 4) (e : am_call rt o t ls st Gf = some q) : ∃ q1, o = some q1 ∧ Gf t ls (rst k q1.1 ++ st) q1.2 = some q := by
  subst hr
  cases o with
  | none =>
    unfold am_call at e
    split at e <;> cases e
  | some q1 =>
    refine ⟨q1, rfl, ?_⟩
    unfold rtc at e
    unfold rst
    rcases (show am_rt k = 0 ∨ am_rt k = 1 ∨ am_rt k = 2 ∨ am_rt k = 3 ∨ am_rt k = 4 by omega) with z | z | z | z | z <;> rw [z] at e ⊢ <;> exact e
theorem oB_sp {o : Option Nat} {k : Nat → Option RR} (e : oB o k = some q) : ∃ a, o = some a ∧ k a = some q := by
  cases o with
  | none => cases e
  | some a => exact ⟨a, rfl, e⟩
theorem if_sp {c : Prop} [Decidable c] {x : Option RR} (e : (if c then x else none) = some q) : c ∧ x = some q := by
  by_cases hc : c
  · rw [if_pos hc] at e; exact ⟨hc, e⟩
  · rw [if_neg hc] at e; cases e
theorem ifn_sp {c : Prop} [Decidable c] {x : Option RR} (e : (if c then none else x) = some q) : ¬ c ∧ x = some q := by
  by_cases hc : c
  · rw [if_pos hc] at e; cases e
  · rw [if_neg hc] at e; exact ⟨hc, e⟩
theorem cond_sp {b : Bool} {x : Option RR} (e : cond b x none = some q) : b = true ∧ x = some q := by
  cases b with
  | true => exact ⟨rfl, e⟩
  | false => cases e
set_option maxHeartbeats 4000000 in
/-- ONE STEP IS SOUND -/
theorem step_ok {call : Nat → List AV → AH → Option RR} {d' : Nat} {cd t : AC} {e : AE} {Gf : AG} (hE : okE y e = true) (hdd : d' + 1 ≤ d) (h6 : 6 ≤ d)
    (hcall : ∀ k as h1 q1, call k as h1 = some q1 → mOk k ∧ am_rt k ≤ 4 ∧ Sd l G d' k as h1 q1)
    (htl : ∀ x tl, t = x :: tl → x.1 = e.1 + e.2.2.1) (hG : ∀ rest ls' st' h', (rest = t ∨ ∃ k, rest = am_drop cd k) → Gf rest ls' st' h' = some q → ∃ x tl, rest = x :: tl ∧ V l G d y x.1 ls' st' h' q)
    (hs : am_step call (am_rt y) cd e t ls st h Gf = some q) : V l G d y e.1 ls st h q := by
  obtain ⟨pc, ins, len, r1, r2, r3, r4⟩ := e
  have nx : ∀ ls' st' h', Gf t ls' st' h' = some q → V l G d y (pc + len) ls' st' h' q := by
    intro ls' st' h' hg
    obtain ⟨x, tl, e1, e2⟩ := hG _ _ _ _ (Or.inl rfl) hg
    rw [htl x tl e1] at e2
    exact e2
  have jm : ∀ k ls' st' h', Gf (am_drop cd k) ls' st' h' = some q → V l G d y k ls' st' h' q := by
    intro k ls' st' h' hg
    obtain ⟨x, tl, e1, e2⟩ := hG _ _ _ _ (Or.inr ⟨k, rfl⟩) hg
    rw [drop_hd _ _ _ _ e1] at e2
    exact e2
  unfold okE at hE
  rw [Bool.and_eq_true, Bool.and_eq_true] at hE
  obtain ⟨⟨hd0, hlen0⟩, hlk⟩ := hE
  have hd := of_decide_eq_true hd0
  clear hd0
  dsimp only at hd hlen0 hlk htl
  show V l G d y pc ls st h q
  have hlen : am_len ins = 0 ∨ am_len ins = len := by
    rw [Bool.or_eq_true] at hlen0
    exact hlen0.imp Nat.eq_of_beq_eq_true Nat.eq_of_beq_eq_true
  unfold am_step at hs
  dsimp only at hs
  cases ins with
  | iload i =>
    have hl : 2 = len := hlen.resolve_left (show ¬ (2 : Nat) = 0 by decide)
    subst hl
    dsimp only at hs
    split at hs
    case _ x hx => exact s_iload hd hx (nx _ _ _ hs)
    case _ => cases hs
  | iload_n i =>
    have hl : 1 = len := hlen.resolve_left (show ¬ (1 : Nat) = 0 by decide)
    subst hl
    dsimp only at hs
    split at hs
    case _ x hx => exact s_iload_n hd hx (nx _ _ _ hs)
    case _ => cases hs
  | lload i =>
    have hl : 2 = len := hlen.resolve_left (show ¬ (2 : Nat) = 0 by decide)
    subst hl
    dsimp only at hs
    split at hs
    case _ x hx => exact s_lload hd hx (nx _ _ _ hs)
    case _ => cases hs
  | lload_n i =>
    have hl : 1 = len := hlen.resolve_left (show ¬ (1 : Nat) = 0 by decide)
    subst hl
    dsimp only at hs
    split at hs
    case _ x hx => exact s_lload_n hd hx (nx _ _ _ hs)
    case _ => cases hs
  | aload i =>
    have hl : 2 = len := hlen.resolve_left (show ¬ (2 : Nat) = 0 by decide)
    subst hl
    dsimp only at hs
    split at hs
    case _ x hx => exact s_aload hd hx (nx _ _ _ hs)
    case _ => cases hs
  | aload_n i =>
    have hl : 1 = len := hlen.resolve_left (show ¬ (1 : Nat) = 0 by decide)
    subst hl
    dsimp only at hs
    split at hs
    case _ x hx => exact s_aload_n hd hx (nx _ _ _ hs)
    case _ => cases hs
  | istore i =>
    have hl : 2 = len := hlen.resolve_left (show ¬ (2 : Nat) = 0 by decide)
    subst hl
    dsimp only at hs
    split at hs
    · obtain ⟨hok, hs⟩ := cond_sp hs
      exact s_istore hd hok (nx _ _ _ hs)
    · cases hs
  | istore_n i =>
    have hl : 1 = len := hlen.resolve_left (show ¬ (1 : Nat) = 0 by decide)
    subst hl
    dsimp only at hs
    split at hs
    · obtain ⟨hok, hs⟩ := cond_sp hs
      exact s_istore_n hd hok (nx _ _ _ hs)
    · cases hs
  | astore i =>
    have hl : 2 = len := hlen.resolve_left (show ¬ (2 : Nat) = 0 by decide)
    subst hl
    dsimp only at hs
    split at hs
    · obtain ⟨hok, hs⟩ := cond_sp hs
      exact s_astore hd hok (nx _ _ _ hs)
    · cases hs
  | astore_n i =>
    have hl : 1 = len := hlen.resolve_left (show ¬ (1 : Nat) = 0 by decide)
    subst hl
    dsimp only at hs
    split at hs
    · obtain ⟨hok, hs⟩ := cond_sp hs
      exact s_astore_n hd hok (nx _ _ _ hs)
    · cases hs
  | lstore i =>
    have hl : 2 = len := hlen.resolve_left (show ¬ (2 : Nat) = 0 by decide)
    subst hl
    dsimp only at hs
    split at hs
    · obtain ⟨hok, hs⟩ := cond_sp hs
      exact s_lstore hd hok (nx _ _ _ hs)
    · cases hs
  | lstore_n i =>
    have hl : 1 = len := hlen.resolve_left (show ¬ (1 : Nat) = 0 by decide)
    subst hl
    dsimp only at hs
    split at hs
    · obtain ⟨hok, hs⟩ := cond_sp hs
      exact s_lstore_n hd hok (nx _ _ _ hs)
    · cases hs
  | iinc i n =>
    have hl : 3 = len := hlen.resolve_left (show ¬ (3 : Nat) = 0 by decide)
    subst hl
    dsimp only at hs
    split at hs
    case _ x hx =>
      obtain ⟨hok, hs⟩ := cond_sp hs
      exact s_iinc hd hx hok (nx _ _ _ hs)
    case _ => cases hs
  | iconst n =>
    have hl : 1 = len := hlen.resolve_left (show ¬ (1 : Nat) = 0 by decide)
    subst hl
    dsimp only at hs
    exact s_iconst hd (nx _ _ _ hs)
  | bipush n =>
    have hl : 2 = len := hlen.resolve_left (show ¬ (2 : Nat) = 0 by decide)
    subst hl
    dsimp only at hs
    exact s_bipush hd (nx _ _ _ hs)
  | sipush n =>
    have hl : 3 = len := hlen.resolve_left (show ¬ (3 : Nat) = 0 by decide)
    subst hl
    dsimp only at hs
    exact s_sipush hd (nx _ _ _ hs)
  | lconst n =>
    have hl : 1 = len := hlen.resolve_left (show ¬ (1 : Nat) = 0 by decide)
    subst hl
    dsimp only at hs
    exact s_lconst hd (nx _ _ _ hs)
  | aconst_null =>
    have hl : 1 = len := hlen.resolve_left (show ¬ (1 : Nat) = 0 by decide)
    subst hl
    dsimp only at hs
    exact s_null hd (nx _ _ _ hs)
  | ldc idx =>
    have hl : 2 = len := hlen.resolve_left (show ¬ (2 : Nat) = 0 by decide)
    subst hl
    dsimp only at hs
    simp only [am_lk, Bool.or_eq_true, Bool.and_eq_true] at hlk
    rcases hlk with ⟨z1, z2⟩ | ⟨⟨z1, z2⟩, z3⟩
    · have z1 := Nat.eq_of_beq_eq_true z1
      subst z1
      exact s_ldcI hd (List.contains_iff_mem.mp z2) (nx _ _ _ hs)
    · have z1 := Nat.eq_of_beq_eq_true z1
      have z3 := Nat.eq_of_beq_eq_true z3
      subst z1
      subst z3
      exact s_ldcS (Nat.eq_of_beq_eq_true z2) hd (nx _ _ _ hs)
  | ldc_w idx =>
    have hl : 3 = len := hlen.resolve_left (show ¬ (3 : Nat) = 0 by decide)
    subst hl
    dsimp only at hs
    exact s_ldcW hd (List.contains_iff_mem.mp hlk) (nx _ _ _ hs)
  | ldc2_w idx =>
    have hl : 3 = len := hlen.resolve_left (show ¬ (3 : Nat) = 0 by decide)
    subst hl
    dsimp only at hs
    exact s_ldcJ hd (List.contains_iff_mem.mp hlk) (nx _ _ _ hs)
  | getstatic idx =>
    have hl : 3 = len := hlen.resolve_left (show ¬ (3 : Nat) = 0 by decide)
    subst hl
    dsimp only at hs
    simp only [am_lk, Bool.or_eq_true, Bool.and_eq_true, Nat.beq_eq] at hlk
    exact s_gets hd (or_assoc.mp hlk) (nx _ _ _ hs)
  | dup =>
    have hl : 1 = len := hlen.resolve_left (show ¬ (1 : Nat) = 0 by decide)
    subst hl
    dsimp only at hs
    split at hs
    · exact s_dupI hd (nx _ _ _ hs)
    · exact s_dupR hd (nx _ _ _ hs)
    · cases hs
  | dup2 =>
    have hl : 1 = len := hlen.resolve_left (show ¬ (1 : Nat) = 0 by decide)
    subst hl
    dsimp only at hs
    split at hs
    · exact s_dup2 hd (nx _ _ _ hs)
    · cases hs
  | pop =>
    have hl : 1 = len := hlen.resolve_left (show ¬ (1 : Nat) = 0 by decide)
    subst hl
    dsimp only at hs
    split at hs
    · exact s_popI hd (nx _ _ _ hs)
    · exact s_popR hd (nx _ _ _ hs)
    · cases hs
  | iadd =>
    have hl : 1 = len := hlen.resolve_left (show ¬ (1 : Nat) = 0 by decide)
    subst hl
    dsimp only at hs
    split at hs
    · exact s_iadd hd (nx _ _ _ hs)
    · cases hs
  | isub =>
    have hl : 1 = len := hlen.resolve_left (show ¬ (1 : Nat) = 0 by decide)
    subst hl
    dsimp only at hs
    split at hs
    · exact s_isub hd (nx _ _ _ hs)
    · cases hs
  | imul =>
    have hl : 1 = len := hlen.resolve_left (show ¬ (1 : Nat) = 0 by decide)
    subst hl
    dsimp only at hs
    split at hs
    · exact s_imul hd (nx _ _ _ hs)
    · cases hs
  | iand =>
    have hl : 1 = len := hlen.resolve_left (show ¬ (1 : Nat) = 0 by decide)
    subst hl
    dsimp only at hs
    split at hs
    · exact s_iand hd (nx _ _ _ hs)
    · cases hs
  | ior =>
    have hl : 1 = len := hlen.resolve_left (show ¬ (1 : Nat) = 0 by decide)
    subst hl
    dsimp only at hs
    split at hs
    · exact s_ior hd (nx _ _ _ hs)
    · cases hs
  | ixor =>
    have hl : 1 = len := hlen.resolve_left (show ¬ (1 : Nat) = 0 by decide)
    subst hl
    dsimp only at hs
    split at hs
    · exact s_ixor hd (nx _ _ _ hs)
    · cases hs
  | ishl =>
    have hl : 1 = len := hlen.resolve_left (show ¬ (1 : Nat) = 0 by decide)
    subst hl
    dsimp only at hs
    split at hs
    · exact s_ishl hd (nx _ _ _ hs)
    · cases hs
  | ishr =>
    have hl : 1 = len := hlen.resolve_left (show ¬ (1 : Nat) = 0 by decide)
    subst hl
    dsimp only at hs
    split at hs
    · exact s_ishr hd (nx _ _ _ hs)
    · cases hs
  | iushr =>
    have hl : 1 = len := hlen.resolve_left (show ¬ (1 : Nat) = 0 by decide)
    subst hl
    dsimp only at hs
    split at hs
    · exact s_iushr hd (nx _ _ _ hs)
    · cases hs
  | ineg =>
    have hl : 1 = len := hlen.resolve_left (show ¬ (1 : Nat) = 0 by decide)
    subst hl
    dsimp only at hs
    split at hs
    · exact s_ineg hd (nx _ _ _ hs)
    · cases hs
  | ladd =>
    have hl : 1 = len := hlen.resolve_left (show ¬ (1 : Nat) = 0 by decide)
    subst hl
    dsimp only at hs
    split at hs
    · exact s_ladd hd (nx _ _ _ hs)
    · cases hs
  | lsub =>
    have hl : 1 = len := hlen.resolve_left (show ¬ (1 : Nat) = 0 by decide)
    subst hl
    dsimp only at hs
    split at hs
    · exact s_lsub hd (nx _ _ _ hs)
    · cases hs
  | lmul =>
    have hl : 1 = len := hlen.resolve_left (show ¬ (1 : Nat) = 0 by decide)
    subst hl
    dsimp only at hs
    split at hs
    · exact s_lmul hd (nx _ _ _ hs)
    · cases hs
  | land =>
    have hl : 1 = len := hlen.resolve_left (show ¬ (1 : Nat) = 0 by decide)
    subst hl
    dsimp only at hs
    split at hs
    · exact s_land hd (nx _ _ _ hs)
    · cases hs
  | lor =>
    have hl : 1 = len := hlen.resolve_left (show ¬ (1 : Nat) = 0 by decide)
    subst hl
    dsimp only at hs
    split at hs
    · exact s_lor hd (nx _ _ _ hs)
    · cases hs
  | lshl =>
    have hl : 1 = len := hlen.resolve_left (show ¬ (1 : Nat) = 0 by decide)
    subst hl
    dsimp only at hs
    split at hs
    · exact s_lshl hd (nx _ _ _ hs)
    · cases hs
  | lcmp =>
    have hl : 1 = len := hlen.resolve_left (show ¬ (1 : Nat) = 0 by decide)
    subst hl
    dsimp only at hs
    split at hs
    · exact s_lcmp hd (nx _ _ _ hs)
    · cases hs
  | i2l =>
    have hl : 1 = len := hlen.resolve_left (show ¬ (1 : Nat) = 0 by decide)
    subst hl
    dsimp only at hs
    split at hs
    · exact s_i2l hd (nx _ _ _ hs)
    · cases hs
  | l2i =>
    have hl : 1 = len := hlen.resolve_left (show ¬ (1 : Nat) = 0 by decide)
    subst hl
    dsimp only at hs
    split at hs
    · exact s_l2i hd (nx _ _ _ hs)
    · cases hs
  | i2b =>
    have hl : 1 = len := hlen.resolve_left (show ¬ (1 : Nat) = 0 by decide)
    subst hl
    dsimp only at hs
    split at hs
    · exact s_i2b hd (nx _ _ _ hs)
    · cases hs
  | idiv =>
    have hl : 1 = len := hlen.resolve_left (show ¬ (1 : Nat) = 0 by decide)
    subst hl
    dsimp only at hs
    split at hs
    · obtain ⟨hz, hs⟩ := ifn_sp hs
      exact s_idiv hd hz (nx _ _ _ hs)
    · cases hs
  | irem =>
    have hl : 1 = len := hlen.resolve_left (show ¬ (1 : Nat) = 0 by decide)
    subst hl
    dsimp only at hs
    split at hs
    · obtain ⟨hz, hs⟩ := ifn_sp hs
      exact s_irem hd hz (nx _ _ _ hs)
    · cases hs
  | ldiv =>
    have hl : 1 = len := hlen.resolve_left (show ¬ (1 : Nat) = 0 by decide)
    subst hl
    dsimp only at hs
    split at hs
    · obtain ⟨hz, hs⟩ := ifn_sp hs
      exact s_ldiv hd hz (nx _ _ _ hs)
    · cases hs
  | lrem =>
    have hl : 1 = len := hlen.resolve_left (show ¬ (1 : Nat) = 0 by decide)
    subst hl
    dsimp only at hs
    split at hs
    · obtain ⟨hz, hs⟩ := ifn_sp hs
      exact s_lrem hd hz (nx _ _ _ hs)
    · cases hs
  | goto off =>
    have hl : 3 = len := hlen.resolve_left (show ¬ (3 : Nat) = 0 by decide)
    subst hl
    dsimp only at hs
    exact s_goto hd (of_decide_eq_true hlk) (jm _ _ _ _ hs)
  | ifCond cnd off =>
    have hl : 3 = len := hlen.resolve_left (show ¬ (3 : Nat) = 0 by decide)
    subst hl
    dsimp only at hs
    have ht := of_decide_eq_true hlk
    split at hs
    case _ =>
      cases cnd with
      | eq =>
        dsimp only at hs
        split at hs
        case _ hc => exact s_zeq1 hd ht hc (jm _ _ _ _ hs)
        case _ hc => exact s_zeq0 hd ht hc (nx _ _ _ hs)
      | ne =>
        dsimp only at hs
        split at hs
        case _ hc => exact s_zne1 hd ht hc (nx _ _ _ hs)
        case _ hc => exact s_zne0 hd ht hc (jm _ _ _ _ hs)
      | lt =>
        dsimp only at hs
        split at hs
        case _ hc => exact s_zlt1 hd ht hc (jm _ _ _ _ hs)
        case _ hc => exact s_zlt0 hd ht hc (nx _ _ _ hs)
      | ge =>
        dsimp only at hs
        split at hs
        case _ hc => exact s_zge1 hd ht hc (nx _ _ _ hs)
        case _ hc => exact s_zge0 hd ht hc (jm _ _ _ _ hs)
      | gt =>
        dsimp only at hs
        split at hs
        case _ hc => exact s_zgt1 hd ht hc (nx _ _ _ hs)
        case _ hc => exact s_zgt0 hd ht hc (jm _ _ _ _ hs)
      | le =>
        dsimp only at hs
        split at hs
        case _ hc => exact s_zle1 hd ht hc (jm _ _ _ _ hs)
        case _ hc => exact s_zle0 hd ht hc (nx _ _ _ hs)
    case _ => cases hs
  | if_icmp cnd off =>
    have hl : 3 = len := hlen.resolve_left (show ¬ (3 : Nat) = 0 by decide)
    subst hl
    dsimp only at hs
    have ht := of_decide_eq_true hlk
    split at hs
    case _ =>
      cases cnd with
      | eq =>
        dsimp only at hs
        split at hs
        case _ hc => exact s_ceq1 hd ht hc (jm _ _ _ _ hs)
        case _ hc => exact s_ceq0 hd ht hc (nx _ _ _ hs)
      | ne =>
        dsimp only at hs
        split at hs
        case _ hc => exact s_cne1 hd ht hc (nx _ _ _ hs)
        case _ hc => exact s_cne0 hd ht hc (jm _ _ _ _ hs)
      | lt =>
        dsimp only at hs
        split at hs
        case _ hc => exact s_clt1 hd ht hc (jm _ _ _ _ hs)
        case _ hc => exact s_clt0 hd ht hc (nx _ _ _ hs)
      | ge =>
        dsimp only at hs
        split at hs
        case _ hc => exact s_cge1 hd ht hc (nx _ _ _ hs)
        case _ hc => exact s_cge0 hd ht hc (jm _ _ _ _ hs)
      | gt =>
        dsimp only at hs
        split at hs
        case _ hc => exact s_cgt1 hd ht hc (nx _ _ _ hs)
        case _ hc => exact s_cgt0 hd ht hc (jm _ _ _ _ hs)
      | le =>
        dsimp only at hs
        split at hs
        case _ hc => exact s_cle1 hd ht hc (jm _ _ _ _ hs)
        case _ hc => exact s_cle0 hd ht hc (nx _ _ _ hs)
    case _ => cases hs
  | ifnull off =>
    have hl : 3 = len := hlen.resolve_left (show ¬ (3 : Nat) = 0 by decide)
    subst hl
    dsimp only at hs
    have ht := of_decide_eq_true hlk
    split at hs
    case _ => 
      split at hs
      · exact s_null1 hd ht (jm _ _ _ _ hs)
      · exact s_null0 hd (nx _ _ _ hs)
    case _ => cases hs
  | ifnonnull off =>
    have hl : 3 = len := hlen.resolve_left (show ¬ (3 : Nat) = 0 by decide)
    subst hl
    dsimp only at hs
    have ht := of_decide_eq_true hlk
    split at hs
    case _ => 
      split at hs
      · exact s_nn0 hd (nx _ _ _ hs)
      · exact s_nn1 hd ht (jm _ _ _ _ hs)
    case _ => cases hs
  | tableswitch dflt lo hi offs =>
    simp only [am_lk, Bool.and_eq_true, decide_eq_true_eq, List.all_eq_true] at hlk
    dsimp only at hs
    split at hs
    · exact s_tab hd hlk.1 hlk.2 (fun o ho => jm _ _ _ _ ho) hs
    · cases hs
  | getfield idx =>
    have hl : 3 = len := hlen.resolve_left (show ¬ (3 : Nat) = 0 by decide)
    subst hl
    dsimp only at hs
    simp only [am_lk, Bool.or_eq_true, Bool.and_eq_true, Nat.beq_eq] at hlk
    obtain ⟨hm, hty⟩ := hlk
    have hm := List.contains_iff_mem.mp hm
    split at hs
    case _ =>
      split at hs
      case _ e3 =>
        obtain ⟨a, rfl, hs⟩ := oB_sp hs
        obtain ⟨ht, hs⟩ := if_sp hs
        exact s_getI hd hm (hty.elim (fun z => z.2) (fun z => by have := z.1; omega)) ht (nx _ _ _ hs)
      case _ e3 =>
        obtain ⟨a, rfl, hs⟩ := oB_sp hs
        obtain ⟨ht, hs⟩ := if_sp hs
        exact s_getR hd hm (hty.elim (fun z => by have := z.1; omega) (fun z => z.2)) ht (nx _ _ _ hs)
      case _ => cases hs
    case _ => cases hs
  | putfield idx =>
    have hl : 3 = len := hlen.resolve_left (show ¬ (3 : Nat) = 0 by decide)
    subst hl
    dsimp only at hs
    simp only [am_lk, Bool.or_eq_true, Bool.and_eq_true, Nat.beq_eq, decide_eq_true_eq] at hlk
    obtain ⟨⟨hm, hty⟩, hfin⟩ := hlk
    have hm := List.contains_iff_mem.mp hm
    split at hs
    case _ =>
      split at hs
      case _ e3 =>
        obtain ⟨a, rfl, hs⟩ := oB_sp hs
        obtain ⟨ht, hs⟩ := if_sp hs
        exact s_putI hd hm (hfin.imp (fun z => by simpa using z) (fun z => z)) (Or.inl hty.symm) ht.1 (nx _ _ _ hs)
      case _ e3 =>
        obtain ⟨a, rfl, hs⟩ := oB_sp hs
        obtain ⟨ht, hs⟩ := if_sp hs
        exact s_putI hd hm (hfin.imp (fun z => by simpa using z) (fun z => z)) (Or.inr ⟨hty.symm, ht.2⟩) ht.1.1 (nx _ _ _ hs)
      case _ => cases hs
    case _ =>
      split at hs
      case _ e3 =>
        obtain ⟨a, rfl, hs⟩ := oB_sp hs
        obtain ⟨ht, hs⟩ := if_sp hs
        exact s_putR hd hm (hfin.imp (fun z => by simpa using z) (fun z => z)) hty.symm ht.1 (nx _ _ _ hs)
      case _ => cases hs
    case _ => cases hs
  | iaload =>
    have hl : 1 = len := hlen.resolve_left (show ¬ (1 : Nat) = 0 by decide)
    subst hl
    dsimp only at hs
    split at hs
    case _ =>
      obtain ⟨a, rfl, hs⟩ := oB_sp hs
      obtain ⟨ht, hs⟩ := if_sp hs
      exact s_iald hd ht.1 ht.2 (nx _ _ _ hs)
    case _ => cases hs
  | baload =>
    have hl : 1 = len := hlen.resolve_left (show ¬ (1 : Nat) = 0 by decide)
    subst hl
    dsimp only at hs
    split at hs
    case _ =>
      obtain ⟨a, rfl, hs⟩ := oB_sp hs
      obtain ⟨ht, hs⟩ := if_sp hs
      exact s_bald hd ht.1 ht.2 (nx _ _ _ hs)
    case _ => cases hs
  | laload =>
    have hl : 1 = len := hlen.resolve_left (show ¬ (1 : Nat) = 0 by decide)
    subst hl
    dsimp only at hs
    split at hs
    case _ =>
      obtain ⟨a, rfl, hs⟩ := oB_sp hs
      obtain ⟨ht, hs⟩ := if_sp hs
      exact s_lald hd ht.1 ht.2 (nx _ _ _ hs)
    case _ => cases hs
  | aaload =>
    have hl : 1 = len := hlen.resolve_left (show ¬ (1 : Nat) = 0 by decide)
    subst hl
    dsimp only at hs
    split at hs
    case _ =>
      obtain ⟨a, rfl, hs⟩ := oB_sp hs
      obtain ⟨ht, hs⟩ := if_sp hs
      exact s_aald hd ht.1 ht.2 (nx _ _ _ hs)
    case _ => cases hs
  | iastore =>
    have hl : 1 = len := hlen.resolve_left (show ¬ (1 : Nat) = 0 by decide)
    subst hl
    dsimp only at hs
    split at hs
    case _ =>
      obtain ⟨a, rfl, hs⟩ := oB_sp hs
      obtain ⟨ht, hs⟩ := if_sp hs
      exact s_iast hd ht.1.1 ht.1.2 ht.2 (nx _ _ _ hs)
    case _ => cases hs
  | lastore =>
    have hl : 1 = len := hlen.resolve_left (show ¬ (1 : Nat) = 0 by decide)
    subst hl
    dsimp only at hs
    split at hs
    case _ =>
      obtain ⟨a, rfl, hs⟩ := oB_sp hs
      obtain ⟨ht, hs⟩ := if_sp hs
      exact s_last hd ht.1.1 ht.2 (nx _ _ _ hs)
    case _ => cases hs
  | bastore =>
    have hl : 1 = len := hlen.resolve_left (show ¬ (1 : Nat) = 0 by decide)
    subst hl
    dsimp only at hs
    split at hs
    case _ =>
      obtain ⟨a, rfl, hs2⟩ := oB_sp hs
      dsimp only [asB] at hs2
      split at hs2
      case _ ht => exact s_bast hd ht.1.1 ht.2 (nx _ _ _ hs2)
      case _ =>
        obtain ⟨ht, hs2⟩ := if_sp hs2
        exact s_zast hd ht.1.1 ht.2 (nx _ _ _ hs2)
    case _ => cases hs
  | aastore =>
    have hl : 1 = len := hlen.resolve_left (show ¬ (1 : Nat) = 0 by decide)
    subst hl
    dsimp only at hs
    split at hs
    case _ =>
      obtain ⟨a, rfl, hs⟩ := oB_sp hs
      unfold asR at hs
      split at hs
      · obtain ⟨ht, hs⟩ := if_sp hs
        exact s_aast0 hd ht.1.1 ht.2 (nx _ _ _ hs)
      · obtain ⟨ht, hs⟩ := if_sp hs
        exact s_aast1 hd ht.1.1 ht.2 (nx _ _ _ hs)
    case _ => cases hs
  | arraylength =>
    have hl : 1 = len := hlen.resolve_left (show ¬ (1 : Nat) = 0 by decide)
    subst hl
    dsimp only at hs
    split at hs
    case _ =>
      obtain ⟨a, rfl, hs⟩ := oB_sp hs
      obtain ⟨ht, hs⟩ := if_sp hs
      exact s_alen hd ht (nx _ _ _ hs)
    case _ => cases hs
  | new idx =>
    have hl : 3 = len := hlen.resolve_left (show ¬ (3 : Nat) = 0 by decide)
    subst hl
    dsimp only at hs
    simp only [am_lk, Bool.and_eq_true] at hlk
    exact s_new hd (List.contains_iff_mem.mp hlk.1) (Nat.blt_eq.mp hlk.2) (nx _ _ _ hs)
  | newarray t0 =>
    have hl : 2 = len := hlen.resolve_left (show ¬ (2 : Nat) = 0 by decide)
    subst hl
    dsimp only at hs
    split at hs
    case _ =>
      obtain ⟨ht, hs⟩ := if_sp hs
      refine s_newa hd ?_ ht.1 ht.2 (nx _ _ _ hs)
      cases t0 <;> simp [am_lk] at hlk <;> simp [hlk]
    case _ => cases hs
  | anewarray idx =>
    have hl : 3 = len := hlen.resolve_left (show ¬ (3 : Nat) = 0 by decide)
    subst hl
    dsimp only at hs
    simp only [am_lk, Bool.or_eq_true, Bool.and_eq_true, Nat.beq_eq] at hlk
    split at hs
    case _ =>
      obtain ⟨ht, hs⟩ := if_sp hs
      rcases hlk with ⟨z1, z2⟩ | ⟨z1, z2⟩
      · exact s_newq hd (List.contains_iff_mem.mp z2) (Or.inl ⟨rfl, z1⟩) ht.1 ht.2 (nx _ _ _ hs)
      · exact s_newq hd (List.contains_iff_mem.mp z2) (Or.inr ⟨rfl, z1⟩) ht.1 ht.2 (nx _ _ _ hs)
    case _ => cases hs
  | invokevirtual idx =>
    have hl : 3 = len := hlen.resolve_left (show ¬ (3 : Nat) = 0 by decide)
    subst hl
    dsimp only at hs
    simp only [am_lk, Bool.or_eq_true, Bool.and_eq_true, Nat.beq_eq, Bool.not_eq_true', decide_eq_true_eq] at hlk
    rcases hlk with (⟨z1, z2⟩ | ⟨z1, z2⟩) | ⟨⟨⟨⟨⟨⟨⟨z1, z3⟩, hm⟩, hkd⟩, hoc⟩, hr4⟩, hr2⟩, hr3⟩
    · subst z1
      split at hs
      case h_1 =>
        split at hs
        case h_1 =>
          obtain ⟨hlow, hs2⟩ := cond_sp hs
          obtain ⟨ho, hs3⟩ := if_sp hs2
          subst ho
          exact s_slen hd (List.contains_iff_mem.mp z2) hlow h6 (nx _ _ _ hs3)
        case h_2 => cases hs
      case h_2 e => exact absurd e (by decide)
      case h_3 e _ => exact absurd rfl e
    · subst z1
      split at hs
      case h_1 e => exact absurd e (by decide)
      case h_2 =>
        split at hs
        case h_1 =>
          obtain ⟨hlow, hs2⟩ := cond_sp hs
          obtain ⟨ho, hs3⟩ := if_sp hs2
          subst ho
          obtain ⟨hi, hs4⟩ := if_sp hs3
          exact s_schr hd (List.contains_iff_mem.mp z2) hi.1 hi.2 hlow h6 (nx _ _ _ hs4)
        case h_2 => cases hs
      case h_3 _ e => exact absurd rfl e
    · split at hs
      case h_1 => simp at z1
      case h_2 => simp at z3
      case h_3 =>
        split at hs
        case h_1 o as st2 hp =>
          obtain ⟨hlow, hs2⟩ := cond_sp hs
          obtain ⟨a, rfl, hs3⟩ := oB_sp hs2
          obtain ⟨ht, hs4⟩ := if_sp hs3
          rw [hr4] at ht
          obtain ⟨p1, p2⟩ := pop_cons hp
          obtain ⟨q0, hq0⟩ := call_some hs4
          obtain ⟨hkr, hrt, -⟩ := hcall _ _ _ _ hq0
          obtain ⟨q1, hq1, hs5⟩ := call_sp (k := r1) hr3 hrt hs4
          rw [p1]
          exact s_invV hd (List.contains_iff_mem.mp hm) hkr hkd (Nat.blt_eq.mp hoc) ht (by omega) hlow hdd (hcall _ _ _ _ hq1).2.2 (nx _ _ _ hs5)
        case h_2 => cases hs
  | invokestatic idx =>
    have hl : 3 = len := hlen.resolve_left (show ¬ (3 : Nat) = 0 by decide)
    subst hl
    dsimp only at hs
    simp only [am_lk, Bool.or_eq_true, Bool.and_eq_true, Nat.beq_eq, Bool.not_eq_true'] at hlk
    rcases hlk with ((⟨z1, z2⟩ | ⟨z1, z2⟩) | ⟨z1, z2⟩) | ⟨⟨⟨⟨⟨⟨z1, z3⟩, z4⟩, hm⟩, hkd⟩, hr2⟩, hr3⟩
    · subst z1
      split at hs
      case h_1 =>
        split at hs
        case h_1 =>
          obtain ⟨hlow, hs2⟩ := cond_sp hs
          obtain ⟨a, rfl, hs3⟩ := oB_sp hs2
          obtain ⟨b, rfl, hs4⟩ := oB_sp hs3
          obtain ⟨⟨⟨t1, t2, t3, t4, t5⟩, t6, t7, t8, t9, t10⟩, hs5⟩ := if_sp hs4
          exact s_acp hd (List.contains_iff_mem.mp z2) t1 t2 t4 t5 t6 t7 t8 t9 t10 hlow (by omega) (nx _ _ _ hs5)
        case h_2 => cases hs
      case h_2 e => exact absurd e (by decide)
      case h_3 e => exact absurd e (by decide)
      case h_4 e _ _ => exact absurd rfl e
    · subst z1
      split at hs
      case h_1 e => exact absurd e (by decide)
      case h_2 =>
        split at hs
        case h_1 =>
          obtain ⟨hlow, hs2⟩ := cond_sp hs
          exact s_max hd (List.contains_iff_mem.mp z2) hlow (by omega) (nx _ _ _ hs2)
        case h_2 => cases hs
      case h_3 e => exact absurd e (by decide)
      case h_4 _ e _ => exact absurd rfl e
    · subst z1
      split at hs
      case h_1 e => exact absurd e (by decide)
      case h_2 e => exact absurd e (by decide)
      case h_3 =>
        split at hs
        case h_1 =>
          obtain ⟨hlow, hs2⟩ := cond_sp hs
          exact s_min hd (List.contains_iff_mem.mp z2) hlow (by omega) (nx _ _ _ hs2)
        case h_2 => cases hs
      case h_4 _ _ e => exact absurd rfl e
    · split at hs
      case h_1 => simp at z1
      case h_2 => simp at z3
      case h_3 => simp at z4
      case h_4 =>
        split at hs
        case h_1 as st2 hp =>
          obtain ⟨hlow, hs2⟩ := cond_sp hs
          obtain ⟨p1, p2⟩ := pop_all hp
          obtain ⟨q0, hq0⟩ := call_some hs2
          obtain ⟨hkr, hrt, -⟩ := hcall _ _ _ _ hq0
          obtain ⟨q1, hq1, hs3⟩ := call_sp (k := r1) hr3 hrt hs2
          rw [p1]
          exact s_invS hd (List.contains_iff_mem.mp hm) hkr hkd (by omega) hlow hdd (hcall _ _ _ _ hq1).2.2 (nx _ _ _ hs3)
        case h_2 => cases hs
  | invokespecial idx =>
    have hl : 3 = len := hlen.resolve_left (show ¬ (3 : Nat) = 0 by decide)
    subst hl
    dsimp only at hs
    simp only [am_lk, Bool.or_eq_true, Bool.and_eq_true, Nat.beq_eq, Bool.not_eq_true', decide_eq_true_eq] at hlk
    rcases hlk with ⟨z1, z2⟩ | ⟨⟨⟨⟨z1, hm⟩, hkd⟩, hr2⟩, hr3⟩
    · subst z1
      split at hs
      case h_1 =>
        split at hs
        case h_1 =>
          obtain ⟨hlow, hs2⟩ := cond_sp hs
          obtain ⟨a, ha, hs3⟩ := oB_sp hs2
          exact s_oinit ha hd (List.contains_iff_mem.mp z2) hlow (by omega) (nx _ _ _ hs3)
        case h_2 => cases hs
      case h_2 e => exact absurd rfl e
    · split at hs
      case h_1 => simp at z1
      case h_2 =>
        split at hs
        case h_1 o as st2 hp =>
          obtain ⟨hlow, hs2⟩ := cond_sp hs
          obtain ⟨a, rfl, hs3⟩ := oB_sp hs2
          obtain ⟨p1, p2⟩ := pop_cons hp
          obtain ⟨q0, hq0⟩ := call_some hs3
          obtain ⟨hkr, hrt, -⟩ := hcall _ _ _ _ hq0
          have hz : am_rt r1 = 0 := by unfold am_rt; rw [hr3]
          obtain ⟨q1, hq1, hs4⟩ := call_sp (k := r1) (rt := 0) (by unfold rtc; rw [hz]; rfl) hrt hs3
          rw [rst_v hz] at hs4
          rw [p1]
          exact s_invI hd (hm.imp List.contains_iff_mem.mp List.contains_iff_mem.mp) hkr hkd hr3 (by omega) hlow hdd (hcall _ _ _ _ hq1).2.2 (nx _ _ _ hs4)
        case h_2 => cases hs
  | ireturn =>
    have hl : 1 = len := hlen.resolve_left (show ¬ (1 : Nat) = 0 by decide)
    subst hl
    dsimp only at hs
    split at hs
    case _ =>
      split at hs
      case _ e1 => cases hs; exact s_iret hd (Or.inl e1)
      case _ e1 =>
        obtain ⟨hx, hs⟩ := if_sp hs
        cases hs
        exact s_iret hd (Or.inr ⟨e1, hx⟩)
      case _ => cases hs
    case _ => cases hs
  | lreturn =>
    have hl : 1 = len := hlen.resolve_left (show ¬ (1 : Nat) = 0 by decide)
    subst hl
    dsimp only at hs
    split at hs
    case _ =>
      split at hs
      case _ e1 => cases hs; exact s_lret hd e1
      case _ => cases hs
    case _ => cases hs
  | areturn =>
    have hl : 1 = len := hlen.resolve_left (show ¬ (1 : Nat) = 0 by decide)
    subst hl
    dsimp only at hs
    split at hs
    case _ =>
      split at hs
      case _ e1 => cases hs; exact s_aret hd e1
      case _ => cases hs
    case _ => cases hs
  | return_ =>
    have hl : 1 = len := hlen.resolve_left (show ¬ (1 : Nat) = 0 by decide)
    subst hl
    dsimp only at hs
    split at hs
    case _ =>
      split at hs
      case _ e1 => cases hs; exact s_vret hd e1
      case _ => cases hs
    case _ => cases hs
  | _ => cases hs
end P12
