/-! What the machine over whole numbers answers, the one over bits answers (by program, wip/whole/gen15.py) -/
def cvV : IV → AV
  | .inl x => vI (Int32.ofInt x)
  | .inr (.inl x) => vJ (Int64.ofInt x)
  | .inr (.inr o) => vR o
def cvL (ls : IL) : AL := ls.map (Option.map cvV)
def cvS (st : List IV) : List AV := st.map cvV
def cvH (h : IH) : AH := (h.1, h.2.1, h.2.2.1, (fun a i => Int32.ofInt (h.2.2.2.1 a i)), (fun a i => Int64.ofInt (h.2.2.2.2.1 a i)), h.2.2.2.2.2)
def cvQ (q : IR) : RR := ((Int32.ofInt q.1.1, Int64.ofInt q.1.2.1, q.1.2.2), cvH q.2)
def okV : IV → Prop
  | .inl x => wr x = x
  | .inr (.inl x) => wl x = x
  | _ => True
def okL (ls : IL) : Prop := ∀ (i : Nat) (v : IV), ls[i]? = some (some v) → okV v
def okS (st : List IV) : Prop := ∀ v ∈ st, okV v
def okH (h : IH) : Prop := (∀ a i, wr (hI h a i) = hI h a i) ∧ (∀ a i, wl (hJ h a i) = hJ h a i)
def okQ (q : IR) : Prop := wr q.1.1 = q.1.1 ∧ wl q.1.2.1 = q.1.2.1 ∧ okH q.2
/-- what is checked of the numbers in a row -/
def okN (e : AE) : Bool := match e.2.1 with
  | .iconst n => decide (wr n = n)
  | .bipush n => decide ((Int8.ofInt n).toInt32.toInt = n)
  | .sipush n => decide ((Int16.ofInt n).toInt32.toInt = n)
  | .ldc _ => decide (wr e.2.2.2.2.2.2 = e.2.2.2.2.2.2)
  | .ldc_w _ => decide (wr e.2.2.2.2.2.2 = e.2.2.2.2.2.2)
  | .ldc2_w _ => decide (wl e.2.2.2.2.2.2 = e.2.2.2.2.2.2)
  | _ => true
theorem of_wr (x : Int) : Int32.ofInt (wr x) = Int32.ofInt x := Int32.ofInt_toInt _
theorem of_wl (x : Int) : Int64.ofInt (wl x) = Int64.ofInt x := Int64.ofInt_toInt _
theorem wr_wr (x : Int) : wr (wr x) = wr x := by unfold wr; rw [Int32.ofInt_toInt]
theorem wl_wl (x : Int) : wl (wl x) = wl x := by unfold wl; rw [Int64.ofInt_toInt]
theorem wr_i (x : Int32) : wr x.toInt = x.toInt := by unfold wr; rw [Int32.ofInt_toInt]
theorem wl_i (x : Int64) : wl x.toInt = x.toInt := by unfold wl; rw [Int64.ofInt_toInt]
theorem wr_bm (x : Int) : wr x = x.bmod (2 ^ 32) := Int32.toInt_ofInt
theorem wl_bm (x : Int) : wl x = x.bmod (2 ^ 64) := Int64.toInt_ofInt
theorem wr_id {x : Int} (h1 : -2147483648 ≤ x) (h2 : x ≤ 2147483647) : wr x = x := by
  rw [wr_bm]
  exact Int.bmod_eq_of_le (by omega) (by omega)
theorem wl_id {x : Int} (h1 : -9223372036854775808 ≤ x) (h2 : x ≤ 9223372036854775807) : wl x = x := by
  rw [wl_bm]
  exact Int.bmod_eq_of_le (by omega) (by omega)
theorem wr_in {x : Int} (h : wr x = x) : -2147483648 ≤ x ∧ x ≤ 2147483647 := by
  have h1 := Int32.le_toInt (Int32.ofInt x)
  have h2 := Int32.toInt_lt (Int32.ofInt x)
  have e : (Int32.ofInt x).toInt = x := h
  rw [e] at h1 h2
  omega
theorem i_lt {x y : Int} (hx : wr x = x) (hy : wr y = y) : (Int32.ofInt x < Int32.ofInt y) ↔ x < y := by
  rw [Int32.lt_iff_toInt_lt]
  show wr x < wr y ↔ _
  rw [hx, hy]
theorem i_le {x y : Int} (hx : wr x = x) (hy : wr y = y) : (Int32.ofInt x ≤ Int32.ofInt y) ↔ x ≤ y := by
  rw [Int32.le_iff_toInt_le]
  show wr x ≤ wr y ↔ _
  rw [hx, hy]
theorem i_eq {x y : Int} (hx : wr x = x) (hy : wr y = y) : (Int32.ofInt x = Int32.ofInt y) ↔ x = y := by
  refine ⟨fun e => ?_, fun e => e ▸ rfl⟩
  have := congrArg Int32.toInt e
  rw [← hx, ← hy]
  exact this
theorem wr_0 : wr 0 = 0 := by decide
theorem wl_0 : wl 0 = 0 := by decide
theorem l_eq0 {x : Int} (hx : wl x = x) : (Int64.ofInt x = 0) ↔ x = 0 := by
  refine ⟨fun e => ?_, fun e => e ▸ rfl⟩
  have := congrArg Int64.toInt e
  rw [← hx]
  exact this
theorem i_lt0 {x : Int} (hx : wr x = x) : (Int32.ofInt x < 0) ↔ x < 0 := i_lt hx wr_0
theorem i_le0 {x : Int} (hx : wr x = x) : (Int32.ofInt x ≤ 0) ↔ x ≤ 0 := i_le hx wr_0
theorem i_eq0 {x : Int} (hx : wr x = x) : (Int32.ofInt x = 0) ↔ x = 0 := i_eq hx wr_0
theorem i_nat {x : Int} (hx : wr x = x) : (Int32.ofInt x).toNatClampNeg = x.toNat := by
  show (wr x).toNat = x.toNat
  rw [hx]
theorem i_in {x : Int} {n : Nat} (hx : wr x = x) : (¬ (Int32.ofInt x < 0 ∨ n ≤ (Int32.ofInt x).toNatClampNeg)) ↔ (0 ≤ x ∧ x < (n : Int)) := by
  rw [i_lt0 hx, i_nat hx]
  omega
theorem okS_c {v : IV} {st : List IV} : okS (v :: st) ↔ okV v ∧ okS st := by
  unfold okS
  simp only [List.mem_cons, forall_eq_or_imp]
theorem cvL_at {ls : IL} {i : Nat} {v : IV} (h : ls[i]? = some (some v)) : (cvL ls)[i]? = some (some (cvV v)) := by
  unfold cvL
  rw [List.getElem?_map, h]
  rfl
theorem cvL_set (ls : IL) (i : Nat) (v : IV) : (cvL ls).set i (some (cvV v)) = cvL (ls.set i (some v)) := by
  unfold cvL
  rw [List.map_set]
  rfl
theorem cvL_setn (ls : IL) (i : Nat) : (cvL ls).set i none = cvL (ls.set i none) := by
  unfold cvL
  rw [List.map_set]
  rfl
theorem cvL_len (ls : IL) : (cvL ls).length = ls.length := by unfold cvL; rw [List.length_map]
theorem cvS_len (st : List IV) : (cvS st).length = st.length := by unfold cvS; rw [List.length_map]
theorem cv_ok1 (ls : IL) (i : Nat) : am_ok1 (cvL ls) i = im_ok1 ls i := by
  unfold am_ok1 im_ok1
  rw [cvL_len]
  congr 1
  cases i with
  | zero => rfl
  | succ j =>
    dsimp only
    unfold cvL
    rw [List.getElem?_map]
    match ls[j]? with
    | none => rfl
    | some none => rfl
    | some (some (.inl x)) => rfl
    | some (some (.inr (.inl x))) => rfl
    | some (some (.inr (.inr x))) => rfl
theorem okL_set {ls : IL} {i : Nat} {v : IV} (h : okL ls) (hv : okV v) : okL (ls.set i (some v)) := by
  intro j u hj
  by_cases e : i = j
  · subst e
    rw [List.getElem?_set] at hj
    rw [if_pos rfl] at hj
    by_cases hz : i < ls.length
    · rw [if_pos hz] at hj; cases hj; exact hv
    · rw [if_neg hz] at hj; cases hj
  · rw [List.getElem?_set_ne e] at hj
    exact h j u hj
theorem okL_setn {ls : IL} {i : Nat} (h : okL ls) : okL (ls.set i none) := by
  intro j u hj
  by_cases e : i = j
  · subst e
    rw [List.getElem?_set] at hj
    rw [if_pos rfl] at hj
    by_cases hz : i < ls.length
    · rw [if_pos hz] at hj; cases hj
    · rw [if_neg hz] at hj; cases hj
  · rw [List.getElem?_set_ne e] at hj
    exact h j u hj
theorem cv_pop : ∀ (n : Nat) (st acc : List IV), am_pop n (cvS st) (cvS acc) = (im_pop n st acc).map (fun q => (cvS q.1, cvS q.2))
  | 0, st, acc => rfl
  | n + 1, [], acc => rfl
  | n + 1, v :: st, acc => cv_pop n st (v :: acc)
theorem ok_pop : ∀ (n : Nat) (st acc xs rest : List IV), okS st → okS acc → im_pop n st acc = some (xs, rest) → okS xs ∧ okS rest
  | 0, st, acc, xs, rest, h1, h2, e => by cases e; exact ⟨h2, h1⟩
  | n + 1, [], acc, xs, rest, h1, h2, e => by cases e
  | n + 1, v :: st, acc, xs, rest, h1, h2, e => ok_pop n st (v :: acc) xs rest (okS_c.mp h1).2 (okS_c.mpr ⟨(okS_c.mp h1).1, h2⟩) e
section P15
variable {Pt : AC → Prop} {Gf : IG} {Ga : AG} {call : Nat → List IV → IH → Option IR} {calla : Nat → List AV → AH → Option RR} {t : AC} {ls : IL} {st : List IV} {h : IH} {q : IR}
def GR (Pt : AC → Prop) (Gf : IG) (Ga : AG) : Prop := ∀ (t : AC) (ls : IL) (st : List IV) (h : IH) (q : IR), Pt t → okL ls → okS st → okH h → Gf t ls st h = some q → okQ q ∧ Ga t (cvL ls) (cvS st) (cvH h) = some (cvQ q)
def CR (call : Nat → List IV → IH → Option IR) (calla : Nat → List AV → AH → Option RR) : Prop := ∀ (k : Nat) (as : List IV) (h : IH) (q : IR), okS as → okH h → call k as h = some q → okQ q ∧ calla k (cvS as) (cvH h) = some (cvQ q)
theorem g_I (hG : GR Pt Gf Ga) (hpt : Pt t) (hl : okL ls) (hs : okS st) (hh : okH h) {x : Int} {v : Int32} (hx : wr x = x) (e : Int32.ofInt x = v) (hq : Gf t ls (iI x :: st) h = some q) : okQ q ∧ Ga t (cvL ls) (vI v :: cvS st) (cvH h) = some (cvQ q) := by
  subst e
  exact hG t ls (iI x :: st) h q hpt hl (okS_c.mpr ⟨hx, hs⟩) hh hq
theorem g_J (hG : GR Pt Gf Ga) (hpt : Pt t) (hl : okL ls) (hs : okS st) (hh : okH h) {x : Int} {v : Int64} (hx : wl x = x) (e : Int64.ofInt x = v) (hq : Gf t ls (iJ x :: st) h = some q) : okQ q ∧ Ga t (cvL ls) (vJ v :: cvS st) (cvH h) = some (cvQ q) := by
  subst e
  exact hG t ls (iJ x :: st) h q hpt hl (okS_c.mpr ⟨hx, hs⟩) hh hq
theorem g_R (hG : GR Pt Gf Ga) (hpt : Pt t) (hl : okL ls) (hs : okS st) (hh : okH h) {x : Option Nat} (hq : Gf t ls (iR x :: st) h = some q) : okQ q ∧ Ga t (cvL ls) (vR x :: cvS st) (cvH h) = some (cvQ q) := hG t ls (iR x :: st) h q hpt hl (okS_c.mpr ⟨trivial, hs⟩) hh hq
theorem xB_sp {o : Option Nat} {k : Nat → Option IR} (e : xB o k = some q) : ∃ a, o = some a ∧ k a = some q := by
  cases o with
  | none => cases e
  | some a => exact ⟨a, rfl, e⟩
theorem xif_sp {c : Prop} [Decidable c] {x : Option IR} (e : (if c then x else none) = some q) : c ∧ x = some q := by
  by_cases hc : c
  · rw [if_pos hc] at e; exact ⟨hc, e⟩
  · rw [if_neg hc] at e; cases e
theorem xifn_sp {c : Prop} [Decidable c] {x : Option IR} (e : (if c then none else x) = some q) : ¬ c ∧ x = some q := by
  by_cases hc : c
  · rw [if_pos hc] at e; cases e
  · rw [if_neg hc] at e; exact ⟨hc, e⟩
theorem xc_sp {b : Bool} {x : Option IR} (e : cond b x none = some q) : b = true ∧ x = some q := by
  cases b with
  | true => exact ⟨rfl, e⟩
  | false => cases e
theorem okH_I {I : Nat → Nat → Int} (hh : okH h) (hI : ∀ a i, wr (I a i) = I a i) : okH (sI h I) := ⟨hI, hh.2⟩
theorem okH_J {J : Nat → Nat → Int} (hh : okH h) (hJ : ∀ a i, wl (J a i) = J a i) : okH (sJ h J) := ⟨hh.1, hJ⟩
theorem okH_R {R : Nat → Nat → Option Nat} (hh : okH h) : okH (sR h R) := hh
theorem ok_up {I : Nat → Nat → Int} {a i : Nat} {x : Int} (hI : ∀ a i, wr (I a i) = I a i) (hx : wr x = x) : ∀ b j, wr (up I a i x b j) = up I a i x b j := by
  intro b j
  unfold up
  split
  · exact hx
  · exact hI b j
theorem ok_upl {I : Nat → Nat → Int} {a i : Nat} {x : Int} (hI : ∀ a i, wl (I a i) = I a i) (hx : wl x = x) : ∀ b j, wl (up I a i x b j) = up I a i x b j := by
  intro b j
  unfold up
  split
  · exact hx
  · exact hI b j
theorem ok_cpy {I : Nat → Nat → Int} {a i b j n : Nat} (hI : ∀ a i, wr (I a i) = I a i) : ∀ c k, wr (cpy I a i b j n c k) = cpy I a i b j n c k := by
  intro c k
  unfold cpy
  split <;> exact hI _ _
theorem ok_mk {t n : Nat} (hh : okH h) : okH (mk h t n) := by
  refine ⟨fun a i => ?_, fun a i => ?_⟩
  · show wr (if a = h.1.1 then 0 else h.2.2.2.1 a i) = (if a = h.1.1 then 0 else h.2.2.2.1 a i)
    split
    · decide
    · exact hh.1 a i
  · show wl (if a = h.1.1 then 0 else h.2.2.2.2.1 a i) = (if a = h.1.1 then 0 else h.2.2.2.2.1 a i)
    split
    · decide
    · exact hh.2 a i
theorem cv_mk (h : IH) (t n : Nat) : cvH (mk h t n) = mkC (cvH h) t n := by
  unfold cvH mk mkC
  simp only [Prod.mk.injEq, true_and, and_true]
  refine ⟨?_, ?_⟩ <;> funext b j <;> split <;> rfl
theorem cv_up (h : IH) (a i : Nat) (x : Int) : cvH (sI h (up (hI h) a i x)) = wrI (cvH h) a i (Int32.ofInt x) := by
  unfold cvH sI wrI up hI
  simp only [Prod.mk.injEq, true_and, and_true]
  funext b j
  split <;> rfl
theorem cv_upJ (h : IH) (a i : Nat) (x : Int) : cvH (sJ h (up (hJ h) a i x)) = wrJ (cvH h) a i (Int64.ofInt x) := by
  unfold cvH sJ wrJ up hJ
  simp only [Prod.mk.injEq, true_and, and_true]
  funext b j
  split <;> rfl
theorem cv_upR (h : IH) (a i : Nat) (x : Option Nat) : cvH (sR h (upR (hR h) a i x)) = wrR (cvH h) a i x := rfl
theorem cv_cpy (h : IH) (a i b j n : Nat) : cvH (sI h (cpy (hI h) a i b j n)) = cpI (cvH h) a i b j n := by
  unfold cvH sI cpI cpy hI
  simp only [Prod.mk.injEq, true_and, and_true]
  funext c k
  split <;> rfl
theorem i_max {x y : Int} (hx : wr x = x) (hy : wr y = y) : Int32.ofInt (imax x y) = jmax (Int32.ofInt x) (Int32.ofInt y) ∧ wr (imax x y) = imax x y := by
  unfold imax jmax
  by_cases hc : x < y
  · rw [if_pos hc, if_pos ((i_lt hx hy).mpr hc)]; exact ⟨rfl, hy⟩
  · rw [if_neg hc, if_neg (fun z => hc ((i_lt hx hy).mp z))]; exact ⟨rfl, hx⟩
theorem i_min {x y : Int} (hx : wr x = x) (hy : wr y = y) : Int32.ofInt (imin x y) = jmin (Int32.ofInt x) (Int32.ofInt y) ∧ wr (imin x y) = imin x y := by
  unfold imin jmin
  by_cases hc : y < x
  · rw [if_pos hc, if_pos ((i_lt hy hx).mpr hc)]; exact ⟨rfl, hy⟩
  · rw [if_neg hc, if_neg (fun z => hc ((i_lt hy hx).mp z))]; exact ⟨rfl, hx⟩
theorem l_eq {x y : Int} (hx : wl x = x) (hy : wl y = y) : (Int64.ofInt x = Int64.ofInt y) ↔ x = y := by
  refine ⟨fun e => ?_, fun e => e ▸ rfl⟩
  have := congrArg Int64.toInt e
  rw [← hx, ← hy]
  exact this
theorem l_lt {x y : Int} (hx : wl x = x) (hy : wl y = y) : (Int64.ofInt x < Int64.ofInt y) ↔ x < y := by
  rw [Int64.lt_iff_toInt_lt]
  show wl x < wl y ↔ _
  rw [hx, hy]
theorem i_div {x y : Int} (hx : wr x = x) (hy : wr y = y) : Int32.ofInt (wr (Int.tdiv x y)) = Int32.ofInt x / Int32.ofInt y := by
  rw [of_wr]
  apply Int32.toInt_inj.mp
  rw [Int32.toInt_div, Int32.toInt_ofInt]
  show _ = (Int.tdiv (wr x) (wr y)).bmod _
  rw [hx, hy]
theorem l_div {x y : Int} (hx : wl x = x) (hy : wl y = y) : Int64.ofInt (wl (Int.tdiv x y)) = Int64.ofInt x / Int64.ofInt y := by
  rw [of_wl]
  apply Int64.toInt_inj.mp
  rw [Int64.toInt_div, Int64.toInt_ofInt]
  show _ = (Int.tdiv (wl x) (wl y)).bmod _
  rw [hx, hy]
theorem i_rem {x y : Int} (hx : wr x = x) (hy : wr y = y) : Int32.ofInt (wr (Int.tmod x y)) = Int32.ofInt x - Int32.ofInt x / Int32.ofInt y * Int32.ofInt y := by
  rw [← i_div hx hy, of_wr, of_wr, ← Int32.ofInt_mul, ← Int32.ofInt_sub]
  congr 1
  have := Int.tmod_add_tdiv_mul x y
  omega
theorem l_rem {x y : Int} (hx : wl x = x) (hy : wl y = y) : Int64.ofInt (wl (Int.tmod x y)) = Int64.ofInt x - Int64.ofInt x / Int64.ofInt y * Int64.ofInt y := by
  rw [← l_div hx hy, of_wl, of_wl, ← Int64.ofInt_mul, ← Int64.ofInt_sub]
  congr 1
  have := Int.tmod_add_tdiv_mul x y
  omega
theorem l_cmp {x y : Int} (hx : wl x = x) (hy : wl y = y) : Int32.ofInt (lcmp x y) = lg_cmp (Int64.ofInt x) (Int64.ofInt y) ∧ wr (lcmp x y) = lcmp x y := by
  unfold lcmp lg_cmp
  by_cases h1 : x < y
  · rw [if_pos h1, if_neg (fun z => absurd ((l_lt hy hx).mp z) (by omega)), if_neg (fun z => absurd ((l_eq hx hy).mp z) (by omega))]
    exact ⟨rfl, by decide⟩
  · rw [if_neg h1]
    by_cases h2 : x = y
    · rw [if_pos h2, if_neg (fun z => absurd ((l_lt hy hx).mp z) (by omega)), if_pos ((l_eq hx hy).mpr h2)]
      exact ⟨rfl, by decide⟩
    · rw [if_neg h2, if_pos ((l_lt hy hx).mpr (by omega))]
      exact ⟨rfl, by decide⟩
theorem i2l_ok {x : Int} (hx : wr x = x) : Int64.ofInt x = (Int32.ofInt x).toInt64 ∧ wl x = x := by
  have hb := wr_in hx
  have hw : wl x = x := wl_id (by omega) (by omega)
  refine ⟨?_, hw⟩
  apply Int64.toInt_inj.mp
  rw [Int32.toInt_toInt64]
  show wl x = wr x
  rw [hx, hw]
theorem l2i_ok {x : Int} : Int32.ofInt (wr x) = (Int64.ofInt x).toInt32 := by
  rw [of_wr]
  apply Int32.toInt_inj.mp
  rw [Int64.toInt_toInt32, Int32.toInt_ofInt, Int64.toInt_ofInt]
  rw [Int.bmod_bmod_of_dvd (by decide)]
theorem kI_sp {o : Option IR} {k : Int → IH → Option IR} (e : kI o k = some q) : ∃ q1, o = some q1 ∧ k q1.1.1 q1.2 = some q := by
  cases o with
  | none => cases e
  | some q1 => exact ⟨q1, rfl, e⟩
theorem call_im {rt : Nat} {o : Option IR} {oa : Option RR} (hG : GR Pt Gf Ga) (hpt : Pt t) (hl : okL ls) (hs : okS st) (hc : ∀ q1, o = some q1 → okQ q1 ∧ oa = some (cvQ q1)) (hq : im_call rt o t ls st Gf = some q) : okQ q ∧ am_call rt oa t (cvL ls) (cvS st) Ga = some (cvQ q) := by
  cases o with
  | none =>
    unfold im_call at hq
    split at hq <;> cases hq
  | some q1 =>
    obtain ⟨ok1, rfl⟩ := hc q1 rfl
    unfold im_call at hq
    unfold am_call
    split at hq
    · exact hG t ls st q1.2 q hpt hl hs ok1.2.2 hq
    · exact g_I hG hpt hl hs ok1.2.2 ok1.1 rfl hq
    · exact g_J hG hpt hl hs ok1.2.2 ok1.2.1 rfl hq
    · rename_i e1 e2 e3
      split
      · exact absurd rfl e1
      · exact absurd rfl e2
      · exact absurd rfl e3
      · exact g_R hG hpt hl hs ok1.2.2 hq
theorem tab_im {x : Int} {F : Int → Option IR} {Fa : Int → Option RR} {dflt : Int} (hx : wr x = x) (hF : ∀ o, F o = some q → okQ q ∧ Fa o = some (cvQ q)) : ∀ (tb : List Int) (i : Int), im_tab x F dflt i tb = some q → okQ q ∧ am_tab (Int32.ofInt x) Fa dflt i tb = some (cvQ q)
  | [], i, e => hF dflt e
  | o :: tb, i, e => by
    unfold im_tab at e
    unfold am_tab
    have e2 : (Int32.ofInt x).toInt = x := hx
    rw [e2]
    by_cases hc : x = i
    · rw [if_pos hc] at e ⊢
      exact hF o e
    · rw [if_neg hc] at e ⊢
      exact tab_im hx hF tb (i + 1) e
theorem wdL_ok (i : Nat) : Int32.ofInt (wdL.getD i 0) = am_wb.getD i 0 ∧ wr (wdL.getD i 0) = wdL.getD i 0 := by
  have e : am_wb = wdL.map Int32.ofInt := by decide +kernel
  have hall : ∀ x ∈ wdL, wr x = x := by decide +kernel
  refine ⟨?_, ?_⟩
  · rw [e, List.getD_eq_getElem?_getD, List.getD_eq_getElem?_getD, List.getElem?_map]
    cases wdL[i]? <;> rfl
  · rw [List.getD_eq_getElem?_getD]
    cases hw : wdL[i]? with
    | none => decide
    | some x => exact hall x (List.mem_of_getElem? hw)
set_option maxHeartbeats 8000000 in
theorem step_im {rt : Nat} {cd : AC} {e : AE} (hN : okN e = true) (hpd : ∀ k, Pt (am_drop cd k)) (hC : CR call calla) (hG : GR Pt Gf Ga) (hpt : Pt t) (hl : okL ls) (hs : okS st) (hh : okH h) (hq : im_step call rt cd e t ls st h Gf = some q) : okQ q ∧ am_step calla rt cd e t (cvL ls) (cvS st) (cvH h) Ga = some (cvQ q) := by
  obtain ⟨pc, ins, len, r1, r2, r3, r4⟩ := e
  have ef : ∀ a i, hpI (cvH h) a i = Int32.ofInt (hI h a i) := fun _ _ => rfl
  have eJ : ∀ a i, hpJ (cvH h) a i = Int64.ofInt (hJ h a i) := fun _ _ => rfl
  unfold okN at hN
  unfold im_step at hq
  unfold am_step
  dsimp only at hN hq ⊢
  cases ins with
  | iload i =>
    dsimp only at hq ⊢
    split at hq
    case h_1 x hx =>
      rw [cvL_at hx]
      exact g_I hG hpt hl hs hh (hl _ _ hx) rfl hq
    case h_2 => cases hq
  | iload_n i =>
    dsimp only at hq ⊢
    split at hq
    case h_1 x hx =>
      rw [cvL_at hx]
      exact g_I hG hpt hl hs hh (hl _ _ hx) rfl hq
    case h_2 => cases hq
  | lload i =>
    dsimp only at hq ⊢
    split at hq
    case h_1 x hx =>
      rw [cvL_at hx]
      exact g_J hG hpt hl hs hh (hl _ _ hx) rfl hq
    case h_2 => cases hq
  | lload_n i =>
    dsimp only at hq ⊢
    split at hq
    case h_1 x hx =>
      rw [cvL_at hx]
      exact g_J hG hpt hl hs hh (hl _ _ hx) rfl hq
    case h_2 => cases hq
  | aload i =>
    dsimp only at hq ⊢
    split at hq
    case h_1 x hx =>
      rw [cvL_at hx]
      exact g_R hG hpt hl hs hh hq
    case h_2 => cases hq
  | aload_n i =>
    dsimp only at hq ⊢
    split at hq
    case h_1 x hx =>
      rw [cvL_at hx]
      exact g_R hG hpt hl hs hh hq
    case h_2 => cases hq
  | istore i =>
    dsimp only at hq ⊢
    split at hq
    case h_1 x st2 =>
      obtain ⟨hok, hq2⟩ := xc_sp hq
      show _ ∧ cond (am_ok1 (cvL ls) i) (Ga t ((cvL ls).set i (some (cvV (iI x)))) (cvS st2) (cvH h)) none = _
      rw [cv_ok1, hok, cvL_set]
      exact hG _ _ _ _ _ hpt (okL_set hl (okS_c.mp hs).1) (okS_c.mp hs).2 hh hq2
    case h_2 => cases hq
  | istore_n i =>
    dsimp only at hq ⊢
    split at hq
    case h_1 x st2 =>
      obtain ⟨hok, hq2⟩ := xc_sp hq
      show _ ∧ cond (am_ok1 (cvL ls) i.val) (Ga t ((cvL ls).set i.val (some (cvV (iI x)))) (cvS st2) (cvH h)) none = _
      rw [cv_ok1, hok, cvL_set]
      exact hG _ _ _ _ _ hpt (okL_set hl (okS_c.mp hs).1) (okS_c.mp hs).2 hh hq2
    case h_2 => cases hq
  | astore i =>
    dsimp only at hq ⊢
    split at hq
    case h_1 x st2 =>
      obtain ⟨hok, hq2⟩ := xc_sp hq
      show _ ∧ cond (am_ok1 (cvL ls) i) (Ga t ((cvL ls).set i (some (cvV (iR x)))) (cvS st2) (cvH h)) none = _
      rw [cv_ok1, hok, cvL_set]
      exact hG _ _ _ _ _ hpt (okL_set hl trivial) (okS_c.mp hs).2 hh hq2
    case h_2 => cases hq
  | astore_n i =>
    dsimp only at hq ⊢
    split at hq
    case h_1 x st2 =>
      obtain ⟨hok, hq2⟩ := xc_sp hq
      show _ ∧ cond (am_ok1 (cvL ls) i.val) (Ga t ((cvL ls).set i.val (some (cvV (iR x)))) (cvS st2) (cvH h)) none = _
      rw [cv_ok1, hok, cvL_set]
      exact hG _ _ _ _ _ hpt (okL_set hl trivial) (okS_c.mp hs).2 hh hq2
    case h_2 => cases hq
  | lstore i =>
    dsimp only at hq ⊢
    split at hq
    case h_1 x st2 =>
      obtain ⟨hok, hq2⟩ := xc_sp hq
      show _ ∧ cond (am_ok1 (cvL ls) i && Nat.blt (i + 1) (cvL ls).length) (Ga t (((cvL ls).set i (some (cvV (iJ x)))).set (i + 1) none) (cvS st2) (cvH h)) none = _
      rw [cv_ok1, cvL_len, hok, cvL_set, cvL_setn]
      exact hG _ _ _ _ _ hpt (okL_setn (okL_set hl (okS_c.mp hs).1)) (okS_c.mp hs).2 hh hq2
    case h_2 => cases hq
  | lstore_n i =>
    dsimp only at hq ⊢
    split at hq
    case h_1 x st2 =>
      obtain ⟨hok, hq2⟩ := xc_sp hq
      show _ ∧ cond (am_ok1 (cvL ls) i.val && Nat.blt (i.val + 1) (cvL ls).length) (Ga t (((cvL ls).set i.val (some (cvV (iJ x)))).set (i.val + 1) none) (cvS st2) (cvH h)) none = _
      rw [cv_ok1, cvL_len, hok, cvL_set, cvL_setn]
      exact hG _ _ _ _ _ hpt (okL_setn (okL_set hl (okS_c.mp hs).1)) (okS_c.mp hs).2 hh hq2
    case h_2 => cases hq
  | iinc i n =>
    dsimp only at hq ⊢
    split at hq
    case h_1 x hx =>
      obtain ⟨hok, hq2⟩ := xc_sp hq
      rw [cvL_at hx]
      show _ ∧ cond (am_ok1 (cvL ls) i) (Ga t ((cvL ls).set i (some (vI (Int32.ofInt x + Int32.ofInt n)))) (cvS st) (cvH h)) none = _
      have e1 : vI (Int32.ofInt x + Int32.ofInt n) = cvV (iI (wr (x + n))) := by
        show vI _ = vI _
        rw [of_wr, Int32.ofInt_add]
      rw [cv_ok1, hok, e1, cvL_set]
      exact hG _ _ _ _ _ hpt (okL_set hl (wr_wr _)) hs hh hq2
    case h_2 => cases hq
  | iconst n =>
    exact g_I hG hpt hl hs hh (of_decide_eq_true hN) rfl hq
  | bipush n =>
    have e1 := of_decide_eq_true hN
    exact g_I hG hpt hl hs hh (by rw [← e1]; exact wr_i _) (by rw [← e1, Int32.ofInt_toInt]; congr 1; rw [e1]) hq
  | sipush n =>
    have e1 := of_decide_eq_true hN
    exact g_I hG hpt hl hs hh (by rw [← e1]; exact wr_i _) (by rw [← e1, Int32.ofInt_toInt]; congr 1; rw [e1]) hq
  | lconst n =>
    refine g_J hG hpt hl hs hh ?_ rfl hq
    match n with
    | ⟨0, _⟩ => show wl 0 = 0; decide
    | ⟨1, _⟩ => show wl 1 = 1; decide
  | aconst_null =>
    exact g_R hG hpt hl hs hh hq
  | ldc i =>
    dsimp only at hq ⊢
    split at hq
    case h_1 => exact g_I hG hpt hl hs hh (of_decide_eq_true hN) rfl hq
    case h_2 e1 =>
      split
      case h_1 => exact absurd rfl e1
      case h_2 => exact g_R hG hpt hl hs hh hq
  | ldc_w i =>
    exact g_I hG hpt hl hs hh (of_decide_eq_true hN) rfl hq
  | ldc2_w i =>
    exact g_J hG hpt hl hs hh (of_decide_eq_true hN) rfl hq
  | getstatic i =>
    exact g_R hG hpt hl hs hh hq
  | dup =>
    dsimp only at hq ⊢
    split at hq
    case h_1 x st2 => exact g_I hG hpt hl hs hh (okS_c.mp hs).1 rfl hq
    case h_2 x st2 => exact g_R hG hpt hl hs hh hq
    case h_3 => cases hq
  | dup2 =>
    dsimp only at hq ⊢
    split at hq
    case h_1 x o st2 => exact g_I hG hpt hl (okS_c.mpr ⟨show okV (iR o) from trivial, hs⟩) hh (okS_c.mp hs).1 rfl hq
    case h_2 => cases hq
  | pop =>
    dsimp only at hq ⊢
    split at hq
    case h_1 x st2 => exact hG _ _ _ _ _ hpt hl (okS_c.mp hs).2 hh hq
    case h_2 x st2 => exact hG _ _ _ _ _ hpt hl (okS_c.mp hs).2 hh hq
    case h_3 => cases hq
  | iadd =>
    dsimp only at hq ⊢
    split at hq
    case h_1 y x st2 =>
      have o1 := okS_c.mp hs
      have o2 := okS_c.mp o1.2
      have hy : wr y = y := o1.1
      have hx : wr x = x := o2.1
      exact g_I hG hpt hl o2.2 hh (wr_wr _) (by rw [of_wr, Int32.ofInt_add]) hq
    case h_2 => cases hq
  | isub =>
    dsimp only at hq ⊢
    split at hq
    case h_1 y x st2 =>
      have o1 := okS_c.mp hs
      have o2 := okS_c.mp o1.2
      have hy : wr y = y := o1.1
      have hx : wr x = x := o2.1
      exact g_I hG hpt hl o2.2 hh (wr_wr _) (by rw [of_wr, Int32.ofInt_sub]) hq
    case h_2 => cases hq
  | imul =>
    dsimp only at hq ⊢
    split at hq
    case h_1 y x st2 =>
      have o1 := okS_c.mp hs
      have o2 := okS_c.mp o1.2
      have hy : wr y = y := o1.1
      have hx : wr x = x := o2.1
      exact g_I hG hpt hl o2.2 hh (wr_wr _) (by rw [of_wr, Int32.ofInt_mul]) hq
    case h_2 => cases hq
  | iand =>
    dsimp only at hq ⊢
    split at hq
    case h_1 y x st2 =>
      have o1 := okS_c.mp hs
      have o2 := okS_c.mp o1.2
      have hy : wr y = y := o1.1
      have hx : wr x = x := o2.1
      exact g_I hG hpt hl o2.2 hh (wr_i _) (Int32.ofInt_toInt _) hq
    case h_2 => cases hq
  | ior =>
    dsimp only at hq ⊢
    split at hq
    case h_1 y x st2 =>
      have o1 := okS_c.mp hs
      have o2 := okS_c.mp o1.2
      have hy : wr y = y := o1.1
      have hx : wr x = x := o2.1
      exact g_I hG hpt hl o2.2 hh (wr_i _) (Int32.ofInt_toInt _) hq
    case h_2 => cases hq
  | ixor =>
    dsimp only at hq ⊢
    split at hq
    case h_1 y x st2 =>
      have o1 := okS_c.mp hs
      have o2 := okS_c.mp o1.2
      have hy : wr y = y := o1.1
      have hx : wr x = x := o2.1
      exact g_I hG hpt hl o2.2 hh (wr_i _) (Int32.ofInt_toInt _) hq
    case h_2 => cases hq
  | ishl =>
    dsimp only at hq ⊢
    split at hq
    case h_1 y x st2 =>
      have o1 := okS_c.mp hs
      have o2 := okS_c.mp o1.2
      have hy : wr y = y := o1.1
      have hx : wr x = x := o2.1
      exact g_I hG hpt hl o2.2 hh (wr_i _) (Int32.ofInt_toInt _) hq
    case h_2 => cases hq
  | ishr =>
    dsimp only at hq ⊢
    split at hq
    case h_1 y x st2 =>
      have o1 := okS_c.mp hs
      have o2 := okS_c.mp o1.2
      have hy : wr y = y := o1.1
      have hx : wr x = x := o2.1
      exact g_I hG hpt hl o2.2 hh (wr_i _) (Int32.ofInt_toInt _) hq
    case h_2 => cases hq
  | iushr =>
    dsimp only at hq ⊢
    split at hq
    case h_1 y x st2 =>
      have o1 := okS_c.mp hs
      have o2 := okS_c.mp o1.2
      have hy : wr y = y := o1.1
      have hx : wr x = x := o2.1
      exact g_I hG hpt hl o2.2 hh (wr_i _) (Int32.ofInt_toInt _) hq
    case h_2 => cases hq
  | ladd =>
    dsimp only at hq ⊢
    split at hq
    case h_1 y x st2 =>
      have o1 := okS_c.mp hs
      have o2 := okS_c.mp o1.2
      exact g_J hG hpt hl o2.2 hh (wl_wl _) (by rw [of_wl, Int64.ofInt_add]) hq
    case h_2 => cases hq
  | lsub =>
    dsimp only at hq ⊢
    split at hq
    case h_1 y x st2 =>
      have o1 := okS_c.mp hs
      have o2 := okS_c.mp o1.2
      exact g_J hG hpt hl o2.2 hh (wl_wl _) (by rw [of_wl, Int64.ofInt_sub]) hq
    case h_2 => cases hq
  | lmul =>
    dsimp only at hq ⊢
    split at hq
    case h_1 y x st2 =>
      have o1 := okS_c.mp hs
      have o2 := okS_c.mp o1.2
      exact g_J hG hpt hl o2.2 hh (wl_wl _) (by rw [of_wl, Int64.ofInt_mul]) hq
    case h_2 => cases hq
  | land =>
    dsimp only at hq ⊢
    split at hq
    case h_1 y x st2 =>
      have o1 := okS_c.mp hs
      have o2 := okS_c.mp o1.2
      exact g_J hG hpt hl o2.2 hh (wl_i _) (Int64.ofInt_toInt _) hq
    case h_2 => cases hq
  | lor =>
    dsimp only at hq ⊢
    split at hq
    case h_1 y x st2 =>
      have o1 := okS_c.mp hs
      have o2 := okS_c.mp o1.2
      exact g_J hG hpt hl o2.2 hh (wl_i _) (Int64.ofInt_toInt _) hq
    case h_2 => cases hq
  | lshl =>
    dsimp only at hq ⊢
    split at hq
    case h_1 y x st2 =>
      have o1 := okS_c.mp hs
      have o2 := okS_c.mp o1.2
      exact g_J hG hpt hl o2.2 hh (wl_i _) (Int64.ofInt_toInt _) hq
    case h_2 => cases hq
  | idiv =>
    dsimp only at hq ⊢
    split at hq
    case h_1 y x st2 =>
      have o1 := okS_c.mp hs
      have o2 := okS_c.mp o1.2
      have hy : wr y = y := o1.1
      have hx : wr x = x := o2.1
      obtain ⟨h0, hq2⟩ := xifn_sp hq
      show _ ∧ (if Int32.ofInt y = 0 then none else _) = _
      rw [if_neg (fun z => h0 ((i_eq0 hy).mp z))]
      exact g_I hG hpt hl o2.2 hh (wr_wr _) (i_div hx hy) hq2
    case h_2 => cases hq
  | irem =>
    dsimp only at hq ⊢
    split at hq
    case h_1 y x st2 =>
      have o1 := okS_c.mp hs
      have o2 := okS_c.mp o1.2
      have hy : wr y = y := o1.1
      have hx : wr x = x := o2.1
      obtain ⟨h0, hq2⟩ := xifn_sp hq
      show _ ∧ (if Int32.ofInt y = 0 then none else _) = _
      rw [if_neg (fun z => h0 ((i_eq0 hy).mp z))]
      exact g_I hG hpt hl o2.2 hh (wr_wr _) (i_rem hx hy) hq2
    case h_2 => cases hq
  | ldiv =>
    dsimp only at hq ⊢
    split at hq
    case h_1 y x st2 =>
      have o1 := okS_c.mp hs
      have o2 := okS_c.mp o1.2
      have hy : wl y = y := o1.1
      have hx : wl x = x := o2.1
      obtain ⟨h0, hq2⟩ := xifn_sp hq
      show _ ∧ (if Int64.ofInt y = 0 then none else _) = _
      rw [if_neg (fun z => h0 ((l_eq0 hy).mp z))]
      exact g_J hG hpt hl o2.2 hh (wl_wl _) (l_div hx hy) hq2
    case h_2 => cases hq
  | lrem =>
    dsimp only at hq ⊢
    split at hq
    case h_1 y x st2 =>
      have o1 := okS_c.mp hs
      have o2 := okS_c.mp o1.2
      have hy : wl y = y := o1.1
      have hx : wl x = x := o2.1
      obtain ⟨h0, hq2⟩ := xifn_sp hq
      show _ ∧ (if Int64.ofInt y = 0 then none else _) = _
      rw [if_neg (fun z => h0 ((l_eq0 hy).mp z))]
      exact g_J hG hpt hl o2.2 hh (wl_wl _) (l_rem hx hy) hq2
    case h_2 => cases hq
  | lcmp =>
    dsimp only at hq ⊢
    split at hq
    case h_1 y x st2 =>
      have o1 := okS_c.mp hs
      have o2 := okS_c.mp o1.2
      exact g_I hG hpt hl o2.2 hh (l_cmp o2.1 o1.1).2 (l_cmp o2.1 o1.1).1 hq
    case h_2 => cases hq
  | ineg =>
    dsimp only at hq ⊢
    split at hq
    case h_1 x st2 =>
      have o1 := okS_c.mp hs
      exact g_I hG hpt hl o1.2 hh (wr_wr _) (by rw [of_wr, Int32.ofInt_neg]) hq
    case h_2 => cases hq
  | i2l =>
    dsimp only at hq ⊢
    split at hq
    case h_1 x st2 =>
      have o1 := okS_c.mp hs
      exact g_J hG hpt hl o1.2 hh ((i2l_ok o1.1).2) ((i2l_ok o1.1).1) hq
    case h_2 => cases hq
  | l2i =>
    dsimp only at hq ⊢
    split at hq
    case h_1 x st2 =>
      have o1 := okS_c.mp hs
      exact g_I hG hpt hl o1.2 hh (wr_wr _) (l2i_ok) hq
    case h_2 => cases hq
  | i2b =>
    dsimp only at hq ⊢
    split at hq
    case h_1 x st2 =>
      have o1 := okS_c.mp hs
      exact g_I hG hpt hl o1.2 hh (wr_i _) (Int32.ofInt_toInt _) hq
    case h_2 => cases hq
  | goto off =>
    exact hG _ _ _ _ _ (hpd _) hl hs hh hq
  | ifCond c off =>
    dsimp only at hq ⊢
    split at hq
    case h_1 x st2 =>
      have o1 := okS_c.mp hs
      have hx : wr x = x := o1.1
      cases c with
      | eq =>
        dsimp only at hq
        show _ ∧ (if Int32.ofInt x = 0 then _ else _) = _
        by_cases hc : x = 0
        · rw [if_pos hc] at hq
          rw [if_pos ((i_eq0 hx).mpr hc)]
          exact hG _ _ _ _ _ (by first | exact hpt | exact hpd _) hl o1.2 hh hq
        · rw [if_neg hc] at hq
          rw [if_neg (fun z => hc ((i_eq0 hx).mp z))]
          exact hG _ _ _ _ _ (by first | exact hpt | exact hpd _) hl o1.2 hh hq
      | ne =>
        dsimp only at hq
        show _ ∧ (if Int32.ofInt x = 0 then _ else _) = _
        by_cases hc : x = 0
        · rw [if_pos hc] at hq
          rw [if_pos ((i_eq0 hx).mpr hc)]
          exact hG _ _ _ _ _ (by first | exact hpt | exact hpd _) hl o1.2 hh hq
        · rw [if_neg hc] at hq
          rw [if_neg (fun z => hc ((i_eq0 hx).mp z))]
          exact hG _ _ _ _ _ (by first | exact hpt | exact hpd _) hl o1.2 hh hq
      | lt =>
        dsimp only at hq
        show _ ∧ (if Int32.ofInt x < 0 then _ else _) = _
        by_cases hc : x < 0
        · rw [if_pos hc] at hq
          rw [if_pos ((i_lt0 hx).mpr hc)]
          exact hG _ _ _ _ _ (by first | exact hpt | exact hpd _) hl o1.2 hh hq
        · rw [if_neg hc] at hq
          rw [if_neg (fun z => hc ((i_lt0 hx).mp z))]
          exact hG _ _ _ _ _ (by first | exact hpt | exact hpd _) hl o1.2 hh hq
      | ge =>
        dsimp only at hq
        show _ ∧ (if Int32.ofInt x < 0 then _ else _) = _
        by_cases hc : x < 0
        · rw [if_pos hc] at hq
          rw [if_pos ((i_lt0 hx).mpr hc)]
          exact hG _ _ _ _ _ (by first | exact hpt | exact hpd _) hl o1.2 hh hq
        · rw [if_neg hc] at hq
          rw [if_neg (fun z => hc ((i_lt0 hx).mp z))]
          exact hG _ _ _ _ _ (by first | exact hpt | exact hpd _) hl o1.2 hh hq
      | gt =>
        dsimp only at hq
        show _ ∧ (if Int32.ofInt x ≤ 0 then _ else _) = _
        by_cases hc : x ≤ 0
        · rw [if_pos hc] at hq
          rw [if_pos ((i_le0 hx).mpr hc)]
          exact hG _ _ _ _ _ (by first | exact hpt | exact hpd _) hl o1.2 hh hq
        · rw [if_neg hc] at hq
          rw [if_neg (fun z => hc ((i_le0 hx).mp z))]
          exact hG _ _ _ _ _ (by first | exact hpt | exact hpd _) hl o1.2 hh hq
      | le =>
        dsimp only at hq
        show _ ∧ (if Int32.ofInt x ≤ 0 then _ else _) = _
        by_cases hc : x ≤ 0
        · rw [if_pos hc] at hq
          rw [if_pos ((i_le0 hx).mpr hc)]
          exact hG _ _ _ _ _ (by first | exact hpt | exact hpd _) hl o1.2 hh hq
        · rw [if_neg hc] at hq
          rw [if_neg (fun z => hc ((i_le0 hx).mp z))]
          exact hG _ _ _ _ _ (by first | exact hpt | exact hpd _) hl o1.2 hh hq
    case h_2 => cases hq
  | if_icmp c off =>
    dsimp only at hq ⊢
    split at hq
    case h_1 y x st2 =>
      have o1 := okS_c.mp hs
      have o2 := okS_c.mp o1.2
      have hy : wr y = y := o1.1
      have hx : wr x = x := o2.1
      cases c with
      | eq =>
        dsimp only at hq
        show _ ∧ (if Int32.ofInt x = Int32.ofInt y then _ else _) = _
        by_cases hc : x = y
        · rw [if_pos hc] at hq
          rw [if_pos ((i_eq hx hy).mpr hc)]
          exact hG _ _ _ _ _ (by first | exact hpt | exact hpd _) hl o2.2 hh hq
        · rw [if_neg hc] at hq
          rw [if_neg (fun z => hc ((i_eq hx hy).mp z))]
          exact hG _ _ _ _ _ (by first | exact hpt | exact hpd _) hl o2.2 hh hq
      | ne =>
        dsimp only at hq
        show _ ∧ (if Int32.ofInt x = Int32.ofInt y then _ else _) = _
        by_cases hc : x = y
        · rw [if_pos hc] at hq
          rw [if_pos ((i_eq hx hy).mpr hc)]
          exact hG _ _ _ _ _ (by first | exact hpt | exact hpd _) hl o2.2 hh hq
        · rw [if_neg hc] at hq
          rw [if_neg (fun z => hc ((i_eq hx hy).mp z))]
          exact hG _ _ _ _ _ (by first | exact hpt | exact hpd _) hl o2.2 hh hq
      | lt =>
        dsimp only at hq
        show _ ∧ (if Int32.ofInt x < Int32.ofInt y then _ else _) = _
        by_cases hc : x < y
        · rw [if_pos hc] at hq
          rw [if_pos ((i_lt hx hy).mpr hc)]
          exact hG _ _ _ _ _ (by first | exact hpt | exact hpd _) hl o2.2 hh hq
        · rw [if_neg hc] at hq
          rw [if_neg (fun z => hc ((i_lt hx hy).mp z))]
          exact hG _ _ _ _ _ (by first | exact hpt | exact hpd _) hl o2.2 hh hq
      | ge =>
        dsimp only at hq
        show _ ∧ (if Int32.ofInt x < Int32.ofInt y then _ else _) = _
        by_cases hc : x < y
        · rw [if_pos hc] at hq
          rw [if_pos ((i_lt hx hy).mpr hc)]
          exact hG _ _ _ _ _ (by first | exact hpt | exact hpd _) hl o2.2 hh hq
        · rw [if_neg hc] at hq
          rw [if_neg (fun z => hc ((i_lt hx hy).mp z))]
          exact hG _ _ _ _ _ (by first | exact hpt | exact hpd _) hl o2.2 hh hq
      | gt =>
        dsimp only at hq
        show _ ∧ (if Int32.ofInt x ≤ Int32.ofInt y then _ else _) = _
        by_cases hc : x ≤ y
        · rw [if_pos hc] at hq
          rw [if_pos ((i_le hx hy).mpr hc)]
          exact hG _ _ _ _ _ (by first | exact hpt | exact hpd _) hl o2.2 hh hq
        · rw [if_neg hc] at hq
          rw [if_neg (fun z => hc ((i_le hx hy).mp z))]
          exact hG _ _ _ _ _ (by first | exact hpt | exact hpd _) hl o2.2 hh hq
      | le =>
        dsimp only at hq
        show _ ∧ (if Int32.ofInt x ≤ Int32.ofInt y then _ else _) = _
        by_cases hc : x ≤ y
        · rw [if_pos hc] at hq
          rw [if_pos ((i_le hx hy).mpr hc)]
          exact hG _ _ _ _ _ (by first | exact hpt | exact hpd _) hl o2.2 hh hq
        · rw [if_neg hc] at hq
          rw [if_neg (fun z => hc ((i_le hx hy).mp z))]
          exact hG _ _ _ _ _ (by first | exact hpt | exact hpd _) hl o2.2 hh hq
    case h_2 => cases hq
  | ifnull off =>
    dsimp only at hq ⊢
    split at hq
    case h_1 o st2 =>
      have o1 := okS_c.mp hs
      cases o with
      | none => exact hG _ _ _ _ _ (by first | exact hpt | exact hpd _) hl o1.2 hh hq
      | some a => exact hG _ _ _ _ _ (by first | exact hpt | exact hpd _) hl o1.2 hh hq
    case h_2 => cases hq
  | ifnonnull off =>
    dsimp only at hq ⊢
    split at hq
    case h_1 o st2 =>
      have o1 := okS_c.mp hs
      cases o with
      | none => exact hG _ _ _ _ _ (by first | exact hpt | exact hpd _) hl o1.2 hh hq
      | some a => exact hG _ _ _ _ _ (by first | exact hpt | exact hpd _) hl o1.2 hh hq
    case h_2 => cases hq
  | tableswitch dflt lo hi offs =>
    dsimp only at hq ⊢
    split at hq
    case h_1 x st2 =>
      have o1 := okS_c.mp hs
      exact tab_im (q := q) o1.1 (fun o ho => hG _ _ _ _ _ (by first | exact hpt | exact hpd _) hl o1.2 hh ho) _ _ hq
    case h_2 => cases hq
  | getfield idx =>
    dsimp only at hq ⊢
    split at hq
    case h_1 o st2 =>
      have o1 := okS_c.mp hs
      split at hq
      case h_1 =>
        obtain ⟨a, rfl, hq2⟩ := xB_sp hq
        obtain ⟨ht, hq3⟩ := xif_sp hq2
        show _ ∧ (if hT h a = _ then _ else none) = _
        rw [if_pos ht]
        exact g_I hG hpt hl o1.2 hh (hh.1 _ _) rfl hq3
      case h_2 =>
        obtain ⟨a, rfl, hq2⟩ := xB_sp hq
        obtain ⟨ht, hq3⟩ := xif_sp hq2
        show _ ∧ (if hT h a = _ then _ else none) = _
        rw [if_pos ht]
        exact g_R hG hpt hl o1.2 hh hq3
      case h_3 => cases hq
    case h_2 => cases hq
  | putfield idx =>
    dsimp only at hq ⊢
    split at hq
    case h_1 x o st2 =>
      have o1 := okS_c.mp hs
      have hx : wr x = x := o1.1
      have o2 := okS_c.mp o1.2
      split at hq
      case h_1 =>
        obtain ⟨a, rfl, hq2⟩ := xB_sp hq
        obtain ⟨ht, hq3⟩ := xif_sp hq2
        show _ ∧ (if hT h a = _ ∧ 3 ≤ a then _ else none) = _
        rw [if_pos ht, ← cv_up]
        exact hG _ _ _ _ _ hpt hl o2.2 (okH_I hh (ok_up hh.1 hx)) hq3
      case h_2 =>
        obtain ⟨a, rfl, hq2⟩ := xB_sp hq
        obtain ⟨ht, hq3⟩ := xif_sp hq2
        show _ ∧ (if (hT h a = _ ∧ 3 ≤ a) ∧ (Int32.ofInt x = 0 ∨ Int32.ofInt x = 1) then _ else none) = _
        rw [if_pos ⟨ht.1, ht.2.imp (fun z => (i_eq0 hx).mpr z) (fun z => by rw [z]; rfl)⟩, ← cv_up]
        exact hG _ _ _ _ _ hpt hl o2.2 (okH_I hh (ok_up hh.1 hx)) hq3
      case h_3 => cases hq
    case h_2 x o st2 =>
      have o1 := okS_c.mp hs
      have o2 := okS_c.mp o1.2
      split at hq
      case h_1 =>
        obtain ⟨a, rfl, hq2⟩ := xB_sp hq
        obtain ⟨ht, hq3⟩ := xif_sp hq2
        show _ ∧ (if hT h a = _ ∧ 3 ≤ a then _ else none) = _
        rw [if_pos ht, ← cv_upR]
        exact hG _ _ _ _ _ hpt hl o2.2 (okH_R hh) hq3
      case h_2 => cases hq
    case h_3 => cases hq
  | iaload =>
    dsimp only at hq ⊢
    split at hq
    case h_1 i o st2 =>
      have o1 := okS_c.mp hs
      have hx : wr i = i := o1.1
      have o2 := okS_c.mp o1.2
      obtain ⟨a, rfl, hq2⟩ := xB_sp hq
      obtain ⟨ht, hq3⟩ := xif_sp hq2
      show _ ∧ (if hT h a = 0 ∧ ¬ (Int32.ofInt i < 0 ∨ hL h a ≤ (Int32.ofInt i).toNatClampNeg) then _ else none) = _
      rw [if_pos ⟨ht.1, (i_in hx).mpr ht.2⟩]
      rw [i_nat hx]
      exact g_I hG hpt hl o2.2 hh (hh.1 _ _) rfl hq3
    case h_2 => cases hq
  | baload =>
    dsimp only at hq ⊢
    split at hq
    case h_1 i o st2 =>
      have o1 := okS_c.mp hs
      have hx : wr i = i := o1.1
      have o2 := okS_c.mp o1.2
      obtain ⟨a, rfl, hq2⟩ := xB_sp hq
      obtain ⟨ht, hq3⟩ := xif_sp hq2
      show _ ∧ (if (hT h a = 2 ∨ hT h a = 3) ∧ ¬ (Int32.ofInt i < 0 ∨ hL h a ≤ (Int32.ofInt i).toNatClampNeg) then _ else none) = _
      rw [if_pos ⟨ht.1, (i_in hx).mpr ht.2⟩]
      rw [i_nat hx]
      exact g_I hG hpt hl o2.2 hh (hh.1 _ _) rfl hq3
    case h_2 => cases hq
  | laload =>
    dsimp only at hq ⊢
    split at hq
    case h_1 i o st2 =>
      have o1 := okS_c.mp hs
      have hx : wr i = i := o1.1
      have o2 := okS_c.mp o1.2
      obtain ⟨a, rfl, hq2⟩ := xB_sp hq
      obtain ⟨ht, hq3⟩ := xif_sp hq2
      show _ ∧ (if hT h a = 1 ∧ ¬ (Int32.ofInt i < 0 ∨ hL h a ≤ (Int32.ofInt i).toNatClampNeg) then _ else none) = _
      rw [if_pos ⟨ht.1, (i_in hx).mpr ht.2⟩]
      rw [i_nat hx]
      exact g_J hG hpt hl o2.2 hh (hh.2 _ _) rfl hq3
    case h_2 => cases hq
  | aaload =>
    dsimp only at hq ⊢
    split at hq
    case h_1 i o st2 =>
      have o1 := okS_c.mp hs
      have hx : wr i = i := o1.1
      have o2 := okS_c.mp o1.2
      obtain ⟨a, rfl, hq2⟩ := xB_sp hq
      obtain ⟨ht, hq3⟩ := xif_sp hq2
      show _ ∧ (if (hT h a = 4 ∨ hT h a = 5) ∧ ¬ (Int32.ofInt i < 0 ∨ hL h a ≤ (Int32.ofInt i).toNatClampNeg) then _ else none) = _
      rw [if_pos ⟨ht.1, (i_in hx).mpr ht.2⟩]
      rw [i_nat hx]
      exact g_R hG hpt hl o2.2 hh hq3
    case h_2 => cases hq
  | iastore =>
    dsimp only at hq ⊢
    split at hq
    case h_1 x i o st2 =>
      have o1 := okS_c.mp hs
      have hv := o1.1
      have o2 := okS_c.mp o1.2
      have hx : wr i = i := o2.1
      have o3 := okS_c.mp o2.2
      obtain ⟨a, rfl, hq2⟩ := xB_sp hq
      obtain ⟨ht, hq3⟩ := xif_sp hq2
      show _ ∧ (if (hT h a = 0 ∧ 3 ≤ a) ∧ ¬ (Int32.ofInt i < 0 ∨ hL h a ≤ (Int32.ofInt i).toNatClampNeg) then _ else none) = _
      rw [if_pos ⟨ht.1, (i_in hx).mpr ht.2⟩]
      rw [i_nat hx, ← cv_up]
      exact hG _ _ _ _ _ hpt hl o3.2 (okH_I hh (ok_up hh.1 hv)) hq3
    case h_2 => cases hq
  | lastore =>
    dsimp only at hq ⊢
    split at hq
    case h_1 x i o st2 =>
      have o1 := okS_c.mp hs
      have hv := o1.1
      have o2 := okS_c.mp o1.2
      have hx : wr i = i := o2.1
      have o3 := okS_c.mp o2.2
      obtain ⟨a, rfl, hq2⟩ := xB_sp hq
      obtain ⟨ht, hq3⟩ := xif_sp hq2
      show _ ∧ (if (hT h a = 1 ∧ 3 ≤ a) ∧ ¬ (Int32.ofInt i < 0 ∨ hL h a ≤ (Int32.ofInt i).toNatClampNeg) then _ else none) = _
      rw [if_pos ⟨ht.1, (i_in hx).mpr ht.2⟩]
      rw [i_nat hx, ← cv_upJ]
      exact hG _ _ _ _ _ hpt hl o3.2 (okH_J hh (ok_upl hh.2 hv)) hq3
    case h_2 => cases hq
  | bastore =>
    dsimp only at hq ⊢
    split at hq
    case h_1 x i o st2 =>
      have o1 := okS_c.mp hs
      have hv := o1.1
      have o2 := okS_c.mp o1.2
      have hx : wr i = i := o2.1
      have o3 := okS_c.mp o2.2
      obtain ⟨a, rfl, hq2⟩ := xB_sp hq
      dsimp only [xsB] at hq2
      show _ ∧ (if (hT h a = 2 ∧ 3 ≤ a) ∧ ¬ (Int32.ofInt i < 0 ∨ hL h a ≤ (Int32.ofInt i).toNatClampNeg) then _ else if (hT h a = 3 ∧ 3 ≤ a) ∧ ¬ (Int32.ofInt i < 0 ∨ hL h a ≤ (Int32.ofInt i).toNatClampNeg) then _ else none) = _
      by_cases h1 : (hT h a = 2 ∧ 3 ≤ a) ∧ (0 ≤ i ∧ i < (hL h a : Int))
      · rw [if_pos h1] at hq2
        rw [if_pos ⟨h1.1, (i_in hx).mpr h1.2⟩, i_nat hx]
        have e1 : wrI (cvH h) a i.toNat (vp_nar .byte (Int32.ofInt x)) = cvH (sI h (up (hI h) a i.toNat (n8 x))) := by
          rw [cv_up]
          unfold n8
          rw [Int32.ofInt_toInt]
        rw [e1]
        exact hG _ _ _ _ _ hpt hl o3.2 (okH_I hh (ok_up hh.1 (wr_i _))) hq2
      · rw [if_neg h1] at hq2
        rw [if_neg (fun z => h1 ⟨z.1, (i_in hx).mp z.2⟩)]
        obtain ⟨h2, hq3⟩ := xif_sp hq2
        rw [if_pos ⟨h2.1, (i_in hx).mpr h2.2⟩, i_nat hx]
        have e1 : wrI (cvH h) a i.toNat (vp_nar .boolean (Int32.ofInt x)) = cvH (sI h (up (hI h) a i.toNat (n1 x))) := by
          rw [cv_up]
          unfold n1
          rw [Int32.ofInt_toInt]
        rw [e1]
        exact hG _ _ _ _ _ hpt hl o3.2 (okH_I hh (ok_up hh.1 (wr_i _))) hq3
    case h_2 => cases hq
  | aastore =>
    dsimp only at hq ⊢
    split at hq
    case h_1 x i o st2 =>
      have o1 := okS_c.mp hs
      have o2 := okS_c.mp o1.2
      have hx : wr i = i := o2.1
      have o3 := okS_c.mp o2.2
      obtain ⟨a, rfl, hq2⟩ := xB_sp hq
      cases x with
      | none =>
        obtain ⟨ht, hq3⟩ := xif_sp hq2
        show _ ∧ (if ((hT h a = 4 ∨ hT h a = 5) ∧ 3 ≤ a) ∧ ¬ (Int32.ofInt i < 0 ∨ hL h a ≤ (Int32.ofInt i).toNatClampNeg) then _ else none) = _
        rw [if_pos ⟨ht.1, (i_in hx).mpr ht.2⟩]
        rw [i_nat hx, ← cv_upR]
        exact hG _ _ _ _ _ hpt hl o3.2 (okH_R hh) hq3
      | some v =>
        obtain ⟨ht, hq3⟩ := xif_sp hq2
        show _ ∧ (if (((hT h a = 4 ∧ hT h v = 19) ∨ (hT h a = 5 ∧ hT h v = 11)) ∧ 3 ≤ a ∧ 3 ≤ v) ∧ ¬ (Int32.ofInt i < 0 ∨ hL h a ≤ (Int32.ofInt i).toNatClampNeg) then _ else none) = _
        rw [if_pos ⟨ht.1, (i_in hx).mpr ht.2⟩]
        rw [i_nat hx, ← cv_upR]
        exact hG _ _ _ _ _ hpt hl o3.2 (okH_R hh) hq3
    case h_2 => cases hq
  | arraylength =>
    dsimp only at hq ⊢
    split at hq
    case h_1 o st2 =>
      have o1 := okS_c.mp hs
      obtain ⟨a, rfl, hq2⟩ := xB_sp hq
      obtain ⟨ht, hq3⟩ := xif_sp hq2
      show _ ∧ (if hT h a < 6 then _ else none) = _
      rw [if_pos ht]
      exact g_I hG hpt hl o1.2 hh (wr_wr _) (by rw [of_wr, Int32.ofInt_eq_ofNat]; rfl) hq3
    case h_2 => cases hq
  | new idx =>
    refine g_R (h := mk h (10 + r1) (am_nf r1)) hG hpt hl hs (ok_mk hh) hq |>.imp id fun z => ?_
    rw [cv_mk] at z
    exact z
  | newarray ty =>
    dsimp only at hq ⊢
    split at hq
    case h_1 n st2 =>
      have o1 := okS_c.mp hs
      have hx : wr n = n := o1.1
      obtain ⟨ht, hq2⟩ := xif_sp hq
      show _ ∧ (if ¬ Int32.ofInt n < 0 ∧ (Int32.ofInt n).toNatClampNeg ≤ 1000000 then _ else none) = _
      rw [if_pos ⟨fun z => absurd ((i_lt0 hx).mp z) (by omega), by rw [i_nat hx]; omega⟩, i_nat hx, ← cv_mk]
      exact g_R hG hpt hl o1.2 (ok_mk hh) hq2
    case h_2 => cases hq
  | anewarray idx =>
    dsimp only at hq ⊢
    split at hq
    case h_1 n st2 =>
      have o1 := okS_c.mp hs
      have hx : wr n = n := o1.1
      obtain ⟨ht, hq2⟩ := xif_sp hq
      show _ ∧ (if ¬ Int32.ofInt n < 0 ∧ (Int32.ofInt n).toNatClampNeg ≤ 1000000 then _ else none) = _
      rw [if_pos ⟨fun z => absurd ((i_lt0 hx).mp z) (by omega), by rw [i_nat hx]; omega⟩, i_nat hx, ← cv_mk]
      exact g_R hG hpt hl o1.2 (ok_mk hh) hq2
    case h_2 => cases hq
  | invokevirtual idx =>
    dsimp only at hq ⊢
    split at hq
    case h_1 =>
      split at hq
      case h_1 o st2 =>
        have o1 := okS_c.mp hs
        obtain ⟨hlow, hq2⟩ := xc_sp hq
        obtain ⟨ho, hq3⟩ := xif_sp hq2
        show _ ∧ cond (am_low (cvS st2)) (if o = some 2 then _ else none) none = _
        have e1 : am_low (cvS st2) = true := by unfold am_low; rw [cvS_len]; exact hlow
        rw [e1, if_pos ho]
        exact g_I hG hpt hl o1.2 hh (by decide) rfl hq3
      case h_2 => cases hq
    case h_2 =>
      split at hq
      case h_1 i o st2 =>
        have o1 := okS_c.mp hs
        have hx : wr i = i := o1.1
        have o2 := okS_c.mp o1.2
        obtain ⟨hlow, hq2⟩ := xc_sp hq
        obtain ⟨ho, hq3⟩ := xif_sp hq2
        obtain ⟨hi, hq4⟩ := xif_sp hq3
        show _ ∧ cond (am_low (cvS st2)) (if o = some 2 then (if ¬ Int32.ofInt i < 0 ∧ (Int32.ofInt i).toNatClampNeg < 135 then _ else none) else none) none = _
        have e1 : am_low (cvS st2) = true := by unfold am_low; rw [cvS_len]; exact hlow
        rw [e1, if_pos ho, if_pos ⟨fun z => absurd ((i_lt0 hx).mp z) (by omega), by rw [i_nat hx]; omega⟩, i_nat hx]
        exact g_I hG hpt hl o2.2 hh (wdL_ok _).2 (wdL_ok _).1 hq4
      case h_2 => cases hq
    case h_3 n1 n2 =>
      split at hq
      case h_1 o as st2 hp =>
        obtain ⟨hlow, hq2⟩ := xc_sp hq
        obtain ⟨a, rfl, hq3⟩ := xB_sp hq2
        obtain ⟨ht, hq4⟩ := xif_sp hq3
        have e1 : am_low (cvS st2) = true := by unfold am_low; rw [cvS_len]; exact hlow
        have e2 := cv_pop r2 st []
        rw [hp] at e2
        have ok2 := ok_pop r2 st [] _ _ hs (fun _ z => absurd z (List.not_mem_nil)) hp
        have o1 := okS_c.mp ok2.1
        split
        case h_1 => exact absurd rfl n1
        case h_2 => exact absurd rfl n2
        case h_3 =>
          rw [show am_pop r2 (cvS st) [] = some (vR (some a) :: cvS as, cvS st2) from e2]
          show _ ∧ cond (am_low (cvS st2)) (if hT h a = _ then _ else none) none = _
          rw [e1, if_pos ht]
          exact call_im hG hpt hl ok2.2 (fun q1 hq1 => hC _ _ _ _ (okS_c.mpr ⟨show okV (iR (some a)) from trivial, o1.2⟩) hh hq1) hq4
      case h_2 => cases hq
  | invokestatic idx =>
    dsimp only at hq ⊢
    split at hq
    case h_1 =>
      split at hq
      case h_1 n j o2 i o st2 =>
        have p1 := okS_c.mp hs
        have hn : wr n = n := p1.1
        have p2 := okS_c.mp p1.2
        have hj : wr j = j := p2.1
        have p3 := okS_c.mp p2.2
        have p4 := okS_c.mp p3.2
        have hi : wr i = i := p4.1
        have p5 := okS_c.mp p4.2
        obtain ⟨hlow, hq2⟩ := xc_sp hq
        obtain ⟨a, rfl, hq3⟩ := xB_sp hq2
        obtain ⟨b, rfl, hq4⟩ := xB_sp hq3
        obtain ⟨⟨t1, t2, t3, t4, t5, t6⟩, hq5⟩ := xif_sp hq4
        have e1 : am_low (cvS st2) = true := by unfold am_low; rw [cvS_len]; exact hlow
        show _ ∧ cond (am_low (cvS st2)) (if (hT h a = 0 ∧ hT h b = 0 ∧ a ≠ b ∧ 3 ≤ a ∧ 3 ≤ b) ∧ ¬ Int32.ofInt i < 0 ∧ ¬ Int32.ofInt j < 0 ∧ ¬ Int32.ofInt n < 0 ∧ (Int32.ofInt i).toNatClampNeg + (Int32.ofInt n).toNatClampNeg ≤ hL h a ∧ (Int32.ofInt j).toNatClampNeg + (Int32.ofInt n).toNatClampNeg ≤ hL h b then _ else none) none = _
        rw [e1, if_pos ⟨t1, fun z => absurd ((i_lt0 hi).mp z) (by omega), fun z => absurd ((i_lt0 hj).mp z) (by omega), fun z => absurd ((i_lt0 hn).mp z) (by omega), by rw [i_nat hi, i_nat hn]; omega, by rw [i_nat hj, i_nat hn]; omega⟩, i_nat hi, i_nat hj, i_nat hn, ← cv_cpy]
        exact hG _ _ _ _ _ hpt hl p5.2 (okH_I hh (ok_cpy hh.1)) hq5
      case h_2 => cases hq
    case h_2 =>
      split at hq
      case h_1 y x st2 =>
        have o1 := okS_c.mp hs
        have o2 := okS_c.mp o1.2
        obtain ⟨hlow, hq2⟩ := xc_sp hq
        have e1 : am_low (cvS st2) = true := by unfold am_low; rw [cvS_len]; exact hlow
        show _ ∧ cond (am_low (cvS st2)) _ none = _
        rw [e1]
        exact g_I hG hpt hl o2.2 hh (i_max o2.1 o1.1).2 (i_max o2.1 o1.1).1 hq2
      case h_2 => cases hq
    case h_3 =>
      split at hq
      case h_1 y x st2 =>
        have o1 := okS_c.mp hs
        have o2 := okS_c.mp o1.2
        obtain ⟨hlow, hq2⟩ := xc_sp hq
        have e1 : am_low (cvS st2) = true := by unfold am_low; rw [cvS_len]; exact hlow
        show _ ∧ cond (am_low (cvS st2)) _ none = _
        rw [e1]
        exact g_I hG hpt hl o2.2 hh (i_min o2.1 o1.1).2 (i_min o2.1 o1.1).1 hq2
      case h_2 => cases hq
    case h_4 n1 n2 n3 =>
      split at hq
      case h_1 as st2 hp =>
        obtain ⟨hlow, hq2⟩ := xc_sp hq
        have e1 : am_low (cvS st2) = true := by unfold am_low; rw [cvS_len]; exact hlow
        have e2 := cv_pop r2 st []
        rw [hp] at e2
        have ok2 := ok_pop r2 st [] _ _ hs (fun _ z => absurd z (List.not_mem_nil)) hp
        split
        case h_1 => exact absurd rfl n1
        case h_2 => exact absurd rfl n2
        case h_3 => exact absurd rfl n3
        case h_4 =>
          rw [show am_pop r2 (cvS st) [] = some (cvS as, cvS st2) from e2]
          show _ ∧ cond (am_low (cvS st2)) _ none = _
          rw [e1]
          exact call_im hG hpt hl ok2.2 (fun q1 hq1 => hC _ _ _ _ ok2.1 hh hq1) hq2
      case h_2 => cases hq
  | invokespecial idx =>
    dsimp only at hq ⊢
    split at hq
    case h_1 =>
      split at hq
      case h_1 o st2 =>
        have o1 := okS_c.mp hs
        obtain ⟨hlow, hq2⟩ := xc_sp hq
        obtain ⟨a, rfl, hq3⟩ := xB_sp hq2
        have e1 : am_low (cvS st2) = true := by unfold am_low; rw [cvS_len]; exact hlow
        show _ ∧ cond (am_low (cvS st2)) _ none = _
        rw [e1]
        exact hG _ _ _ _ _ (by first | exact hpt | exact hpd _) hl o1.2 hh hq3
      case h_2 => cases hq
    case h_2 n1 =>
      split at hq
      case h_1 o as st2 hp =>
        obtain ⟨hlow, hq2⟩ := xc_sp hq
        obtain ⟨a, rfl, hq3⟩ := xB_sp hq2
        have e1 : am_low (cvS st2) = true := by unfold am_low; rw [cvS_len]; exact hlow
        have e2 := cv_pop r2 st []
        rw [hp] at e2
        have ok2 := ok_pop r2 st [] _ _ hs (fun _ z => absurd z (List.not_mem_nil)) hp
        have o1 := okS_c.mp ok2.1
        split
        case h_1 => exact absurd rfl n1
        case h_2 =>
          rw [show am_pop r2 (cvS st) [] = some (vR (some a) :: cvS as, cvS st2) from e2]
          show _ ∧ cond (am_low (cvS st2)) _ none = _
          rw [e1]
          exact call_im (rt := 0) hG hpt hl ok2.2 (fun q1 hq1 => hC _ _ _ _ (okS_c.mpr ⟨show okV (iR (some a)) from trivial, o1.2⟩) hh hq1) hq3
      case h_2 => cases hq
  | ireturn =>
    dsimp only at hq ⊢
    split at hq
    case h_1 x =>
      have o1 := okS_c.mp hs
      have hx : wr x = x := o1.1
      split at hq
      case h_1 => cases hq; exact ⟨⟨hx, wl_0, hh⟩, rfl⟩
      case h_2 =>
        obtain ⟨h0, hq2⟩ := xif_sp hq
        cases hq2
        refine ⟨⟨hx, wl_0, hh⟩, ?_⟩
        show (if Int32.ofInt x = 0 ∨ Int32.ofInt x = 1 then _ else none) = _
        rw [if_pos (h0.imp (fun z => (i_eq0 hx).mpr z) (fun z => by rw [z]; rfl))]
        rfl
      case h_3 => cases hq
    case h_2 => cases hq
  | lreturn =>
    dsimp only at hq ⊢
    split at hq
    case h_1 x =>
      have o1 := okS_c.mp hs
      split at hq
      case h_1 => cases hq; exact ⟨⟨wr_0, o1.1, hh⟩, rfl⟩
      case h_2 => cases hq
    case h_2 => cases hq
  | areturn =>
    dsimp only at hq ⊢
    split at hq
    case h_1 x =>
      split at hq
      case h_1 => cases hq; exact ⟨⟨wr_0, wl_0, hh⟩, rfl⟩
      case h_2 => cases hq
    case h_2 => cases hq
  | return_ =>
    dsimp only at hq ⊢
    split at hq
    case h_1 =>
      split at hq
      case h_1 => cases hq; exact ⟨⟨wr_0, wl_0, hh⟩, rfl⟩
      case h_2 => cases hq
    case h_2 => cases hq
  | _ => cases hq
theorem cv_kill : ∀ (ks : List Nat) (ls : IL), am_kill ks (cvL ls) = cvL (im_kill ks ls)
  | [], _ => rfl
  | k :: ks, ls => by
    show am_kill ks ((cvL ls).set k none) = cvL (im_kill ks (ls.set k none))
    rw [cvL_setn, cv_kill ks]
theorem ok_kill : ∀ (ks : List Nat) (ls : IL), okL ls → okL (im_kill ks ls)
  | [], _, h => h
  | k :: ks, ls, h => ok_kill ks _ (okL_setn h)
theorem seg_im {rt : Nat} {cd : AC} {cut : List (Nat × List Nat)} {K : IK} {Ka : AK} (hN : ∀ e ∈ cd, okN e = true) (hC : CR call calla)
    (hK : ∀ pc ls st h q, okL ls → okS st → okH h → K pc ls st h = some q → okQ q ∧ Ka pc (cvL ls) (cvS st) (cvH h) = some (cvQ q)) :
    ∀ (n : Nat) (rest : AC) (ls : IL) (st : List IV) (h : IH) (q : IR), (∃ a, cd = a ++ rest) → okL ls → okS st → okH h → im_seg call rt cd cut K n rest ls st h = some q → okQ q ∧ am_seg calla rt cd cut Ka n rest (cvL ls) (cvS st) (cvH h) = some (cvQ q) := by
  intro n
  induction n with
  | zero => intro rest ls st h q _ _ _ _ hq; cases hq
  | succ n ih =>
    intro rest ls st h q hsuf hl hs hh hq
    cases rest with
    | nil => cases hq
    | cons e t =>
      obtain ⟨a, ha⟩ := hsuf
      have hG : GR (fun rest => ∃ a, cd = a ++ rest) (im_go cut K (im_seg call rt cd cut K n)) (am_go cut Ka (am_seg calla rt cd cut Ka n)) := by
        intro rest' ls' st' h' q' hsf hl' hs' hh' hq'
        unfold im_go at hq'
        unfold am_go
        cases rest' with
        | nil => cases hq'
        | cons x tl =>
          dsimp only at hq' ⊢
          cases hf : cut.find? (fun c => Nat.beq c.1 x.1) with
          | none =>
            rw [hf] at hq'
            exact ih _ _ _ _ _ hsf hl' hs' hh' hq'
          | some c =>
            rw [hf] at hq'
            dsimp only at hq' ⊢
            rw [cv_kill]
            exact hK _ _ _ _ _ (ok_kill _ _ hl') hs' hh' hq'
      exact step_im (Pt := fun rest => ∃ a, cd = a ++ rest) (hN e (by rw [ha]; simp)) (suf_drop cd) hC hG ⟨a ++ [e], by rw [ha, List.append_assoc]; rfl⟩ hl hs hh hq
theorem lp_im {rt : Nat} {cd : AC} {cut : List (Nat × List Nat)} (hN : ∀ e ∈ cd, okN e = true) (hC : CR call calla) :
    ∀ (n pc : Nat) (ls : IL) (st : List IV) (h : IH) (q : IR), okL ls → okS st → okH h → im_lp call rt cd cut n pc ls st h = some q → okQ q ∧ am_lp calla rt cd cut n pc (cvL ls) (cvS st) (cvH h) = some (cvQ q) := by
  intro n
  induction n with
  | zero => intro pc ls st h q _ _ _ hq; cases hq
  | succ n ih =>
    intro pc ls st h q hl hs hh hq
    exact seg_im hN hC ih 2000 (am_drop cd pc) ls st h q (suf_drop cd pc) hl hs hh hq
theorem cv_ent : ∀ as : List IV, am_ent (cvS as) = cvL (im_ent as)
  | [] => rfl
  | .inl x :: t => congrArg (some (vI (Int32.ofInt x)) :: ·) (cv_ent t)
  | .inr (.inl x) :: t => congrArg (some (vJ (Int64.ofInt x)) :: none :: ·) (cv_ent t)
  | .inr (.inr x) :: t => congrArg (some (vR x) :: ·) (cv_ent t)
theorem ok_ent : ∀ as : List IV, okS as → ∀ v, some v ∈ im_ent as → okV v
  | [], _, v, h => by cases h
  | .inl x :: t, ho, v, h => by
    rcases List.mem_cons.mp h with h | h
    · cases h; exact (okS_c.mp ho).1
    · exact ok_ent t (okS_c.mp ho).2 v h
  | .inr (.inl x) :: t, ho, v, h => by
    rcases List.mem_cons.mp h with h | h
    · cases h; exact (okS_c.mp ho).1
    · rcases List.mem_cons.mp h with h | h
      · cases h
      · exact ok_ent t (okS_c.mp ho).2 v h
  | .inr (.inr x) :: t, ho, v, h => by
    rcases List.mem_cons.mp h with h | h
    · cases h; trivial
    · exact ok_ent t (okS_c.mp ho).2 v h
theorem run_im {PG : Nat → AC} {CT : Nat → List (Nat × List Nat)} {RT ML : Nat → Nat} (hN : ∀ y, ∀ e ∈ PG y, okN e = true) (hT : ∀ y, PG y ≠ [] → RT y = am_rt y ∧ ML y = mMl y) : ∀ d : Nat, CR (im_run PG CT RT ML d) (am_run PG CT d) := by
  intro d
  induction d with
  | zero => intro y as h q _ _ hq; cases hq
  | succ d ih =>
    intro y as h q ho hh hq
    unfold im_run at hq
    unfold am_run
    obtain ⟨hlen, hq2⟩ := xc_sp hq
    have hne : PG y ≠ [] := fun z => by
      rw [z] at hq2
      cases hq2
    obtain ⟨t1, t2⟩ := hT y hne
    rw [t1, t2] at hq2
    rw [t2] at hlen
    rw [cv_ent, cvL_len, hlen]
    have e1 : cvL (im_ent as) ++ List.replicate (mMl y - (im_ent as).length) none = cvL (im_ent as ++ List.replicate (mMl y - (im_ent as).length) none) := by
      unfold cvL
      rw [List.map_append, List.map_replicate]
      rfl
    rw [e1]
    refine lp_im (hN y) ih _ _ _ [] h q ?_ (fun _ z => absurd z List.not_mem_nil) hh hq2
    intro i v hi
    rcases List.mem_append.mp (List.mem_of_getElem? hi) with hm | hm
    · exact ok_ent as ho v hm
    · rw [List.mem_replicate] at hm
      cases hm.2
end P15

