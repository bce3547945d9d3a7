/-! The reference's reader: its small methods (by program, wip/whole/gen64.py) -/
/-- the reference's code of what the class has as a token -/
def trM (c : Int) : Int := if c = 1000 then 50 else if c = 1001 then 0 else if c < 256 then 100 + c else trC c
theorem cdM_tr {B : Nat → Int} {n p : Nat} (hB : ∀ i, 0 ≤ B i ∧ B i ≤ 255) : cdM B n p = trM (tkC B n p) := by
  have hb := hB (tkF B n p)
  have hw := wordL_in (B := B) (f := tkF B n p) (t := tkL B n p) wordTb 256
  have hl : wordTb.length = 27 := rfl
  unfold cdM tkC
  by_cases c1 : tkF B n p < tkD B n p
  · rw [if_pos c1, if_pos c1]
    rfl
  · rw [if_neg c1, if_neg c1]
    by_cases c2 : tkF B n p < n
    · rw [if_pos c2, if_pos c2]
      by_cases c3 : tkF B n p < tkL B n p
      · rw [if_pos c3, if_pos c3]
        unfold trM
        rw [if_neg (by omega), if_neg (by omega), if_neg (by omega)]
      · rw [if_neg c3, if_neg c3]
        unfold trM
        rw [if_neg (by omega), if_neg (by omega), if_pos (by omega)]
    · rw [if_neg c2, if_neg c2]
      rfl
/-- what a token can be -/
theorem tkC_rg {B : Nat → Int} {n p : Nat} (hB : ∀ i, 0 ≤ B i ∧ B i ≤ 255) : (0 ≤ tkC B n p ∧ tkC B n p < 283) ∨ (1000 ≤ tkC B n p ∧ tkC B n p ≤ 1002) := by
  have hb := hB (tkF B n p)
  have hw := wordL_in (B := B) (f := tkF B n p) (t := tkL B n p) wordTb 256
  have hl : wordTb.length = 27 := rfl
  unfold tkC
  (repeat' split) <;> omega
/-- the words and the numbers: the reference's code, the class's token -/
def trPs : List (Int × Nat) := [(50, 1000), (8, 256), (9, 257), (15, 258), (10, 259), (11, 260), (12, 261), (13, 262), (16, 263), (14, 264), (17, 265), (18, 266), (19, 267), (20, 268), (1, 269), (2, 270), (3, 271), (21, 272), (23, 273), (25, 274), (26, 275), (22, 276), (24, 277), (27, 278), (4, 279), (5, 280), (6, 281), (7, 282)]
theorem trP_ok : ((List.range 1003).all fun c => decide (¬ (c < 283 ∨ 1000 ≤ c)) || trPs.all fun x => decide (trM (c : Int) = x.1 ↔ c = x.2)) = true := by decide +kernel
theorem tr_p {B : Nat → Int} {n p : Nat} (hB : ∀ i, 0 ≤ B i ∧ B i ≤ 255) {m : Int} {t : Nat} (hm : (m, t) ∈ trPs) : cdM B n p = m ↔ tkC B n p = t := by
  have hr := tkC_rg (n := n) (p := p) hB
  have z := trP_ok
  rw [List.all_eq_true] at z
  have z := z (tkC B n p).toNat (List.mem_range.mpr (by omega))
  rw [Bool.or_eq_true, decide_eq_true_iff, List.all_eq_true] at z
  have z := z.resolve_left (fun q => q (by omega))
  have z := of_decide_eq_true (z (m, t) hm)
  have e : (((tkC B n p).toNat : Nat) : Int) = tkC B n p := by omega
  rw [e] at z
  rw [cdM_tr hB]
  dsimp only at z
  rw [z]
  omega
theorem tr_num {B : Nat → Int} {n p : Nat} (hB : ∀ i, 0 ≤ B i ∧ B i ≤ 255) : cdM B n p = 50 ↔ tkC B n p = 1000 := tr_p hB (t := 1000) (by simp [trPs])
/-- a sign -/
theorem tr_sign {B : Nat → Int} {n p : Nat} (hB : ∀ i, 0 ≤ B i ∧ B i ≤ 255) {c : Int} (hc : 0 ≤ c ∧ c < 256) : cdM B n p = 100 + c ↔ tkC B n p = c := by
  have hr := tkC_rg (n := n) (p := p) hB
  have ht : ∀ x : Int, trC x ≤ 27 := fun x => by
    unfold trC
    (repeat' split) <;> omega
  have h2 := ht (tkC B n p)
  rw [cdM_tr hB]
  unfold trM
  (repeat' split) <;> omega
/-- the value of a number, class and reference -/
def vRel (v w : Int) : Prop := (0 ≤ v ∧ v ≤ 1000 ∧ w = v) ∨ (v = 1001 ∧ 1000 < w)
theorem vRel_s {B : Nat → Int} {n : Nat} : ∀ (k p : Nat) (v w : Int), vRel v w → vRel (dgn B n k p v) (vlm B n k p w)
  | 0, _, _, _, h => h
  | k + 1, p, v, w, h => by
    unfold dgn vlm
    by_cases c : p < n ∧ dgB (B p) = true
    · rw [if_pos c, if_pos c]
      have hd := of_decide_eq_true c.2
      refine vRel_s k (p + 1) _ _ ?_
      unfold vRel imin at *
      (repeat' split) <;> omega
    · rw [if_neg c, if_neg c]
      exact h
theorem vl_rel (B : Nat → Int) (n p : Nat) : vRel (tkV B n p) (vlM B n p) := vRel_s _ _ _ _ (Or.inl ⟨by omega, by omega, rfl⟩)
theorem vl_in {B : Nat → Int} {n p : Nat} {lo hi : Int} (hl : 0 ≤ lo) (hh : hi ≤ 1000) : (lo ≤ vlM B n p ∧ vlM B n p ≤ hi) ↔ (lo ≤ tkV B n p ∧ tkV B n p ≤ hi) := by
  have h := vl_rel B n p
  unfold vRel at h
  omega
/-- the reference reads: its tokens lie there -/
def MdTk (B : Nat → Int) (n : Nat) (I : Nat → Nat → Int) (K : Nat) : Prop := (I 88 18 = K ∧ K ≤ n) ∧ TkOk B n I K ∧ tkF B n (posT B n K) = n ∧ (I 99 K = n ∧ I 97 K = 0 ∧ I 98 K = 0)
/-- the reader of the reference at the token j, l parts read -/
def MdOk (B : Nat → Int) (n : Nat) (K : Nat) (I : Nat → Nat → Int) (j l : Nat) : Prop := MdTk B n I K ∧ (I 88 21 = -1 ∧ I 88 19 = j ∧ I 88 20 = l) ∧ (j ≤ K ∧ l ≤ 51)
/-- behind the FAULT f -/
def MdNo (B : Nat → Int) (n : Nat) (K : Nat) (I : Nat → Nat → Int) (f : Int) : Prop := MdTk B n I K ∧ (I 88 21 = f ∧ f ≠ -1)
/-- what reading leaves as it is -/
def MdFr (I' I : Nat → Nat → Int) : Prop := (∀ b, b ≠ 88 → I' b = I b) ∧ ∀ i, i ≠ 19 → i ≠ 20 → i ≠ 21 → I' 88 i = I 88 i
theorem MdFr.rf (I : Nat → Nat → Int) : MdFr I I := ⟨fun _ _ => rfl, fun _ _ _ _ => rfl⟩
theorem MdFr.tr {A B C : Nat → Nat → Int} (h1 : MdFr A B) (h2 : MdFr B C) : MdFr A C := ⟨fun b a1 => (h1.1 b a1).trans (h2.1 b a1), fun i a1 a2 a3 => (h1.2 i a1 a2 a3).trans (h2.2 i a1 a2 a3)⟩
theorem MdFr.u (I : Nat → Nat → Int) {i : Nat} (x : Int) (hi : i = 19 ∨ i = 20 ∨ i = 21) : MdFr (up I 88 i x) I := ⟨fun b hb => up_na hb, fun k a1 a2 a3 => up_ni (by omega)⟩
theorem MdTk.fr {B : Nat → Int} {n K : Nat} {I I' : Nat → Nat → Int} (h : MdTk B n I K) (f : MdFr I' I) : MdTk B n I' K := by
  obtain ⟨⟨a1, a2⟩, a3, a4, a5⟩ := h
  have e97 := f.1 97 (by omega)
  have e98 := f.1 98 (by omega)
  have e99 := f.1 99 (by omega)
  exact ⟨⟨by rw [f.2 18 (by omega) (by omega) (by omega)]; exact a1, a2⟩, fun j hj => by rw [e97, e98, e99]; exact a3 j hj, a4, by rw [e97, e98, e99]; exact a5⟩
/-- code, value, place of the token j -/
theorem MdTk.at {B : Nat → Int} {n K j : Nat} {I : Nat → Nat → Int} (h : MdTk B n I K) (hj : j ≤ K) : I 97 j = cdM B n (posT B n j) ∧ I 99 j = tkF B n (posT B n j) ∧ (cdM B n (posT B n j) = 50 → I 98 j = vlM B n (posT B n j)) := by
  by_cases z : j = K
  · subst z
    obtain ⟨-, -, a4, a5, a6, a7⟩ := h
    have e : cdM B n (posT B n j) = 0 := by
      have h1 : tkF B n (posT B n j) ≤ tkD B n (posT B n j) := scT_ge _ _ _ _
      have h2 : tkD B n (posT B n j) ≤ n := scT_le _ _ (by omega)
      unfold cdM
      rw [if_neg (by omega), if_neg (by omega)]
    exact ⟨by rw [a6, e], by rw [a5, a4], fun q => by rw [e] at q; exact absurd q (by decide)⟩
  · obtain ⟨b1, b2, b3, b4⟩ := h.2.1 j (by omega)
    exact ⟨b2, b1, fun _ => b3⟩
/-- behind the last token nothing is -/
theorem MdTk.lt {B : Nat → Int} {n K j : Nat} {I : Nat → Nat → Int} (h : MdTk B n I K) (hj : j ≤ K) (hc : tkC B n (posT B n j) ≠ 1001) : j < K := by
  by_cases z : j = K
  · subst z
    obtain ⟨-, -, a4, -⟩ := h
    have h1 : tkF B n (posT B n j) ≤ tkD B n (posT B n j) := scT_ge _ _ _ _
    have h2 : tkD B n (posT B n j) ≤ n := scT_le _ _ (by omega)
    exfalso
    apply hc
    unfold tkC
    rw [if_neg (by omega), if_neg (by omega)]
  · omega
section P64
variable {d n K : Nat} {h : IH} {I J : Nat → Nat → Int} {B : Nat → Int} {j l : Nat}
theorem s_fine (s : ShM h 88) : rn (d + 1) 183 [iR (some 88)] (st h I J) = some (oI (if I 88 21 = -1 then 1 else 0), st h I J) := by
  rw [r_M_fine, e_M_fine, ygI (bT_88 s)]
  by_cases c : I 88 21 = -1
  · rw [if_pos c, if_pos c, xZ_1]
  · rw [if_neg c, if_neg c, xZ_0]
theorem s_faultsO (s : ShM h 88) (hn : n ≤ 400) (r : MdOk B n K I j l) : rn (d + 2) 184 [iR (some 88)] (st h I J) = some (o0, st h (up I 88 21 (tkF B n (posT B n j))) J) := by
  obtain ⟨r0, ⟨r1, r2, r3⟩, r4⟩ := r
  have a := r0.at r4.1
  have k := r0.1.2
  rw [r_M_faults, e_M_faults, yck (bT_88 s), s_fine s, kI_o, if_pos r1, if_neg (by decide), ygR (bT_88 s) (bR_17 s), ygI (bT_88 s), r2, xB_s, yaIv (i := j) (x := tkF B n (posT B n j)) (bT_99 s) (bL_99 s) rfl (by omega) a.2.1, ypI (bT_88 s) (by omega)]
theorem faultsO (r : MdOk B n K I j l) : MdNo B n K (up I 88 21 (tkF B n (posT B n j))) (tkF B n (posT B n j)) := ⟨r.1.fr (MdFr.u I _ (by omega)), by rw [up_eq], by omega⟩
theorem s_faultsN (s : ShM h 88) {f : Int} (r : MdNo B n K I f) : rn (d + 2) 184 [iR (some 88)] (st h I J) = some (o0, st h I J) := by
  rw [r_M_faults, e_M_faults, yck (bT_88 s), s_fine s, kI_o, if_neg (show ¬ I 88 21 = -1 by rw [r.2.1]; exact r.2.2), if_pos rfl]
/-- one token on -/
theorem MdOk.next (r : MdOk B n K I j l) (hj : j < K) : MdOk B n K (up I 88 19 ((j + 1 : Nat) : Int)) (j + 1) l :=
  ⟨r.1.fr (MdFr.u I _ (by omega)), ⟨by rw [up_ni (by omega)]; exact r.2.1.1, by rw [up_eq], by rw [up_ni (by omega)]; exact r.2.1.2.2⟩, by omega, r.2.2.2⟩
theorem s_takes (s : ShM h 88) (hn : n ≤ 400) (r : MdOk B n K I j l) (c : Int) : rn (d + 2) 185 [iR (some 88), iI c] (st h I J) = if cdM B n (posT B n j) = c then some (oI 1, st h (up I 88 19 ((j + 1 : Nat) : Int)) J) else some (oI 0, st h I J) := by
  obtain ⟨r0, ⟨r1, r2, r3⟩, r4⟩ := r
  have a := r0.at r4.1
  have k := r0.1.2
  rw [r_M_takes0, e_M_takes0, yck (bT_88 s), s_fine s, kI_o, if_pos r1, if_neg (by decide), ygR (bT_88 s) (bR_15 s), ygI (bT_88 s), r2, xB_s, yaIv (i := j) (x := cdM B n (posT B n j)) (bT_97 s) (bL_97 s) rfl (by omega) a.1]
  by_cases z : cdM B n (posT B n j) = c
  · rw [if_pos z, if_pos z, if_neg (by decide), ygI (bT_88 s), r2, ypI (bT_88 s) (by omega), xZ_1, wr_id (by omega) (by omega)]
    rfl
  · rw [if_neg z, if_neg z, if_pos rfl, xZ_0]
theorem s_takesN (s : ShM h 88) {f : Int} (r : MdNo B n K I f) (c : Int) : rn (d + 2) 185 [iR (some 88), iI c] (st h I J) = some (oI 0, st h I J) := by
  rw [r_M_takes0, e_M_takes0, yck (bT_88 s), s_fine s, kI_o, if_neg (show ¬ I 88 21 = -1 by rw [r.2.1]; exact r.2.2), if_pos rfl, if_pos rfl, xZ_0]
end P64
