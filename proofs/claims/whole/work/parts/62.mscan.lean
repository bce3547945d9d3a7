/-! The reference's tokens (by program, wip/whole/gen62.py) -/
theorem fu_aux {X fu fu' m : Nat} (h1 : X + 300 + 1 ≤ fu) (h2 : fu ≤ fu' + (2 * m + 5)) (h3 : m < 135) : X + 1 ≤ fu' := by omega
section P62
variable {d n : Nat} {h : IH} {I J : Nat → Nat → Int} {B : Nat → Int}
theorem l_wordsM (s : ShM h 88) (hB : ∀ i, 0 ≤ B i ∧ B i ≤ 255) (eW : ∀ i, I 94 i = wordB.getD i 0) (eT : ∀ i, i < n → I 95 i = sb (B i)) (hn : n ≤ 400) {f t : Nat} (hft : f ≤ t ∧ t ≤ n) : ∀ (l : List (Nat × Nat)) (k : Nat) (w : Int) (fu : Nat), chainW l k → (∀ x ∈ l, (wordB.getD (x.1 + x.2) 0 = 32 ∧ x.1 + x.2 < 135) ∧ ∀ j, j < x.2 → wordB.getD (x.1 + j) 0 ≠ 32 ∧ 97 ≤ wordB.getD (x.1 + j) 0 ∧ wordB.getD (x.1 + j) 0 ≤ 122) → (0 ≤ w ∧ w + l.length ≤ 1000) → l.length * 300 + 1 ≤ fu → lp d 181 fu 5 [some (iR (some 88)), some (iI f), some (iI t), some (iI w), some (iI k), none, none, none] [] (st h I J) = some (oI (wordM B f t l w), st h I J) := by
  intro l
  induction l with
  | nil =>
    intro k w fu hc ha hw hfu
    have : k = 135 := hc
    subst this
    obtain ⟨fu, rfl⟩ : ∃ q, fu = q + 1 := ⟨fu - 1, by omega⟩
    rw [e_M_wordOf_5, ygR (bT_88 s) (bR_7 s), xB_s, yle (show hT h 94 < 6 by rw [bT_94 s]; decide) (bL_94 s) (by omega), if_neg (by omega)]
    rfl
  | cons x l ih =>
    intro k w fu hc ha hw hfu
    obtain ⟨k', m⟩ := x
    obtain ⟨rfl, h2⟩ := hc
    rw [List.length_cons] at hw hfu
    obtain ⟨⟨a1, a2⟩, a3⟩ := ha (k', m) List.mem_cons_self
    have a2 : k' + m < 135 := a2
    have hmul : (l.length + 1) * 300 = l.length * 300 + 300 := by rw [Nat.succ_mul]
    obtain ⟨fu', g1, g2⟩ := l_wordM (d := d) (J := J) s hB eW eT hn hft (k := k') (m := m) (w := w) (by omega) ⟨a1, a2⟩ a3 fu (by omega)
    rw [g2]
    unfold wordM
    by_cases c : eqM B f t k' m
    · rw [if_pos c, if_pos c]
    · rw [if_neg c, if_neg c]
      have h3 : l.length * 300 + 1 ≤ fu' := by
        rw [hmul] at hfu
        have k1 : m < 135 := Nat.lt_of_le_of_lt (Nat.le_add_left m k') a2
        exact fu_aux hfu g1 k1
      have h4 : 0 ≤ w + 1 ∧ w + 1 + (l.length : Int) ≤ 1000 := by
        have := hw.2
        clear c g2
        constructor <;> omega
      exact ih (k' + m + 1) (w + 1) fu' h2 (fun x hx => ha x (List.mem_cons_of_mem _ hx)) h4 h3
theorem s_wordOf (s : ShM h 88) (hB : ∀ i, 0 ≤ B i ∧ B i ≤ 255) (eW : ∀ i, I 94 i = wordB.getD i 0) (eT : ∀ i, i < n → I 95 i = sb (B i)) (hn : n ≤ 400) {f t : Nat} (hft : f ≤ t ∧ t ≤ n) : rn (d + 1) 181 [iR (some 88), iI f, iI t] (st h I J) = some (oI (trC (wordL B f t wordTb 256)), st h I J) := by
  have hk := wdM_ok
  rw [List.all_eq_true] at hk
  have hlen : wordMt.length = 27 := rfl
  rw [r_M_wordOf, e_M_wordOf, ← word_same]
  exact l_wordsM s hB eW eT hn hft wordMt 0 1 999999 (by simp [wordMt, chainW]) (fun x hx => by
    have := hk x hx
    rw [Bool.and_eq_true, decide_eq_true_iff, List.all_eq_true] at this
    exact ⟨this.1, fun j hj => of_decide_eq_true (this.2 j (List.mem_range.mpr hj))⟩) (by rw [hlen]; omega) (by rw [hlen]; omega)
end P62
/-- where the token k begins to be looked for -/
def posT (B : Nat → Int) (n : Nat) : Nat → Nat
  | 0 => 0
  | k + 1 => tkE B n (posT B n k)
/-- the reference's code of the token behind p -/
def cdM (B : Nat → Int) (n p : Nat) : Int := if tkF B n p < tkD B n p then 50 else if tkF B n p < n then (if tkF B n p < tkL B n p then trC (wordL B (tkF B n p) (tkL B n p) wordTb 256) else 100 + B (tkF B n p)) else 0
def vlm (B : Nat → Int) (n : Nat) : Nat → Nat → Int → Int
  | 0, _, v => v
  | k + 1, p, v => if p < n ∧ dgB (B p) = true then vlm B n k (p + 1) (if v ≤ 1000000 then 10 * v + B p - 48 else v) else v
/-- the reference's value of the token behind p -/
def vlM (B : Nat → Int) (n p : Nat) : Int := vlm B n (n - tkF B n p) (tkF B n p) 0
theorem posT_le {B : Nat → Int} {n : Nat} : ∀ k, posT B n k ≤ n
  | 0 => Nat.zero_le n
  | k + 1 => tkE_le (posT_le k)
/-- the tokens ahead of K lie in their rows -/
def TkOk (B : Nat → Int) (n : Nat) (I : Nat → Nat → Int) (K : Nat) : Prop := ∀ j, j < K → I 99 j = tkF B n (posT B n j) ∧ I 97 j = cdM B n (posT B n j) ∧ I 98 j = vlM B n (posT B n j) ∧ tkF B n (posT B n j) < n
theorem sb_iand : ∀ k : Fin 256, iand (sb (k.val : Int)) 255 = (k.val : Int) := by decide +kernel
theorem sb_and {b : Int} (hb : 0 ≤ b ∧ b ≤ 255) : iand (sb b) 255 = b := by
  have := sb_iand ⟨b.toNat, by omega⟩
  rw [Int.toNat_of_nonneg hb.1] at this
  exact this
section P62b
variable {d n : Nat} {h : IH} {J : Nat → Nat → Int} {B : Nat → Int}
theorem s_isSmall (h : IH) {b : Int} (hb : 0 ≤ b ∧ b ≤ 255) : rn (d + 1) 179 [iI (sb b)] h = some (oI (if ltB b = true then 1 else 0), h) := by
  have e : ltB b = true ↔ (97 ≤ sb b ∧ sb b ≤ 122) := by
    unfold ltB sb
    rw [decide_eq_true_iff]
    split <;> omega
  rw [r_M_isSmall, e_M_isSmall]
  by_cases c : ltB b = true
  · have := e.mp c
    rw [if_neg (by omega), if_pos (by omega), if_pos c, xZ_1]
  · have hc : ¬ (97 ≤ sb b ∧ sb b ≤ 122) := fun z => c (e.mpr z)
    rw [if_neg c]
    by_cases c1 : sb b < 97
    · rw [if_pos c1, xZ_0]
    · rw [if_neg c1, if_neg (by omega), xZ_0]
theorem s_isDigit (h : IH) {b : Int} (hb : 0 ≤ b ∧ b ≤ 255) : rn (d + 1) 180 [iI (sb b)] h = some (oI (if dgB b = true then 1 else 0), h) := by
  have e : dgB b = true ↔ (48 ≤ sb b ∧ sb b ≤ 57) := by
    unfold dgB sb
    rw [decide_eq_true_iff]
    split <;> omega
  rw [r_M_isDigit, e_M_isDigit]
  by_cases c : dgB b = true
  · have := e.mp c
    rw [if_neg (by omega), if_pos (by omega), if_pos c, xZ_1]
  · have hc : ¬ (48 ≤ sb b ∧ sb b ≤ 57) := fun z => c (e.mpr z)
    rw [if_neg c]
    by_cases c1 : sb b < 48
    · rw [if_pos c1, xZ_0]
    · rw [if_neg c1, if_neg (by omega), xZ_0]
/-- letters -/
theorem l_43 (s : ShM h 88) (hB : ∀ i, 0 ≤ B i ∧ B i ≤ 255) (hn : n ≤ 400) {I : Nat → Nat → Int} (eT : ∀ i, i < n → I 95 i = sb (B i)) {k : Nat} {b : Int} (hb : 0 ≤ b ∧ b ≤ 255) (hd : ¬ dgB b = true) : ∀ (q p fu : Nat), p + q = n → q + 1 ≤ fu → ∃ fu', fu ≤ fu' + (scT ltB B n p - p) + 1 ∧ lp (d + 1) 182 fu 43 [some (iR (some 88)), some (iI (n : Int)), some (iI (k : Int)), some (iI (sb b)), some (iI (p : Int)), none] [] (st h I J) = lp (d + 1) 182 fu' 100 [some (iR (some 88)), some (iI (n : Int)), some (iI (k : Int)), some (iI (sb b)), some (iI ((scT ltB B n p : Nat) : Int)), none] [] (st h I J) := by
  intro q
  induction q with
  | zero =>
    intro p fu hp hfu
    obtain ⟨fu, rfl⟩ : ∃ q, fu = q + 1 := ⟨fu - 1, by omega⟩
    rw [scT_e (by omega)]
    exact ⟨fu, by omega, by rw [e_M_splits_43, if_neg (by omega), s_isDigit _ hb, kI_o, if_neg hd, if_pos rfl]⟩
  | succ q ih =>
    intro p fu hp hfu
    obtain ⟨fu, rfl⟩ : ∃ q, fu = q + 1 := ⟨fu - 1, by omega⟩
    have hbp := hB p
    have hd1 : lp (d + 1) 182 (fu + 1) 43 [some (iR (some 88)), some (iI (n : Int)), some (iI (k : Int)), some (iI (sb b)), some (iI (p : Int)), none] [] (st h I J) = if ltB (B p) = true then lp (d + 1) 182 fu 43 [some (iR (some 88)), some (iI (n : Int)), some (iI (k : Int)), some (iI (sb b)), some (iI ((p + 1 : Nat) : Int)), none] [] (st h I J) else lp (d + 1) 182 fu 100 [some (iR (some 88)), some (iI (n : Int)), some (iI (k : Int)), some (iI (sb b)), some (iI (p : Int)), none] [] (st h I J) := by
      rw [e_M_splits_43, if_pos (by omega), ygR (bT_88 s) (bR_11 s), xB_s, yaBv (i := p) (x := sb (B p)) (Or.inl (bT_95 s)) (bL_95 s) rfl (by omega) (eT p (by omega)), s_isSmall _ hbp, kI_o]
      by_cases c : ltB (B p) = true
      · rw [if_pos c, if_neg (by decide), if_pos c, wr_id (by omega) (by omega)]
        rfl
      · rw [if_neg c, if_pos rfl, if_neg c, s_isDigit _ hb, kI_o, if_neg hd, if_pos rfl]
    by_cases c : ltB (B p) = true
    · obtain ⟨fu', g1, g2⟩ := ih (p + 1) fu (by omega) (by omega)
      rw [scT_s (by omega) c]
      have := scT_ge ltB B n (p + 1)
      exact ⟨fu', by omega, by rw [hd1, if_pos c]; exact g2⟩
    · rw [scT_e (fun z => c z.2)]
      exact ⟨fu, by omega, by rw [hd1, if_neg c]⟩
/-- digits -/
theorem l_75 (s : ShM h 88) (hB : ∀ i, 0 ≤ B i ∧ B i ≤ 255) (hn : n ≤ 400) {I : Nat → Nat → Int} (eT : ∀ i, i < n → I 95 i = sb (B i)) {k : Nat} {b : Int} : ∀ (q p fu : Nat), p + q = n → q + 1 ≤ fu → ∃ fu', fu ≤ fu' + (scT dgB B n p - p) + 1 ∧ lp (d + 1) 182 fu 75 [some (iR (some 88)), some (iI (n : Int)), some (iI (k : Int)), some (iI b), some (iI (p : Int)), none] [] (st h I J) = lp (d + 1) 182 fu' 100 [some (iR (some 88)), some (iI (n : Int)), some (iI (k : Int)), some (iI b), some (iI ((scT dgB B n p : Nat) : Int)), none] [] (st h I J) := by
  intro q
  induction q with
  | zero =>
    intro p fu hp hfu
    obtain ⟨fu, rfl⟩ : ∃ q, fu = q + 1 := ⟨fu - 1, by omega⟩
    rw [scT_e (by omega)]
    exact ⟨fu, by omega, by rw [e_M_splits_75, if_neg (by omega)]⟩
  | succ q ih =>
    intro p fu hp hfu
    obtain ⟨fu, rfl⟩ : ∃ q, fu = q + 1 := ⟨fu - 1, by omega⟩
    have hbp := hB p
    have hd1 : lp (d + 1) 182 (fu + 1) 75 [some (iR (some 88)), some (iI (n : Int)), some (iI (k : Int)), some (iI b), some (iI (p : Int)), none] [] (st h I J) = if dgB (B p) = true then lp (d + 1) 182 fu 75 [some (iR (some 88)), some (iI (n : Int)), some (iI (k : Int)), some (iI b), some (iI ((p + 1 : Nat) : Int)), none] [] (st h I J) else lp (d + 1) 182 fu 100 [some (iR (some 88)), some (iI (n : Int)), some (iI (k : Int)), some (iI b), some (iI (p : Int)), none] [] (st h I J) := by
      rw [e_M_splits_75, if_pos (by omega), ygR (bT_88 s) (bR_11 s), xB_s, yaBv (i := p) (x := sb (B p)) (Or.inl (bT_95 s)) (bL_95 s) rfl (by omega) (eT p (by omega)), s_isDigit _ hbp, kI_o]
      by_cases c : dgB (B p) = true
      · rw [if_pos c, if_neg (by decide), if_pos c, wr_id (by omega) (by omega)]
        rfl
      · rw [if_neg c, if_pos rfl, if_neg c]
    by_cases c : dgB (B p) = true
    · obtain ⟨fu', g1, g2⟩ := ih (p + 1) fu (by omega) (by omega)
      rw [scT_s (by omega) c]
      have := scT_ge dgB B n (p + 1)
      exact ⟨fu', by omega, by rw [hd1, if_pos c]; exact g2⟩
    · rw [scT_e (fun z => c z.2)]
      exact ⟨fu, by omega, by rw [hd1, if_neg c]⟩
/-- the value of a token: digits -/
theorem l_169d (s : ShM h 88) (hB : ∀ i, 0 ≤ B i ∧ B i ≤ 255) (hn : n ≤ 400) {b : Int} (hb : 0 ≤ b ∧ b ≤ 255) (hd : dgB b = true) {K : Nat} (hK : K ≤ 400) : ∀ (q p fu : Nat) (v : Int) (I : Nat → Nat → Int), n - p ≤ q → (∀ i, i < n → I 95 i = sb (B i)) → I 88 18 = K → I 98 K = v → (0 ≤ v ∧ v ≤ 20000000) → q + 1 ≤ fu → p ≤ n → ∃ fu', fu ≤ fu' + (scT dgB B n p - p) + 1 ∧ lp (d + 1) 182 fu 169 [some (iR (some 88)), some (iI (n : Int)), none, some (iI (sb b)), some (iI ((scT dgB B n p : Nat) : Int)), some (iI (p : Int))] [] (st h I J) = lp (d + 1) 182 fu' 7 [some (iR (some 88)), some (iI (n : Int)), some (iI ((scT dgB B n p : Nat) : Int)), none, none, none] [] (st h (up (up I 98 K (vlm B n (n - p) p v)) 88 18 ((K + 1 : Nat) : Int)) J) := by
  intro q
  have hend : ∀ (p fu : Nat) (v : Int) (I : Nat → Nat → Int), ¬ (p < n ∧ dgB (B p) = true) → I 88 18 = K → I 98 K = v → lp (d + 1) 182 (fu + 1) 169 [some (iR (some 88)), some (iI (n : Int)), none, some (iI (sb b)), some (iI ((scT dgB B n p : Nat) : Int)), some (iI (p : Int))] [] (st h I J) = lp (d + 1) 182 fu 7 [some (iR (some 88)), some (iI (n : Int)), some (iI ((scT dgB B n p : Nat) : Int)), none, none, none] [] (st h (up (up I 98 K (vlm B n (n - p) p v)) 88 18 ((K + 1 : Nat) : Int)) J) := by
    intro p fu v I hz eK ev
    have evl : vlm B n (n - p) p v = v := by
      cases n - p with
      | zero => rfl
      | succ k => unfold vlm; rw [if_neg hz]
    have eu : up I 98 K v = I := by
      funext c i
      unfold up
      by_cases z : c = 98 ∧ i = K
      · rw [if_pos z, z.1, z.2, ev]
      · rw [if_neg z]
    rw [scT_e hz, e_M_splits_169, if_neg (by omega), ygI (bT_88 s), eK, ypI (bT_88 s) (by omega), wr_id (by omega) (by omega), evl, eu]
    rfl
  induction q with
  | zero =>
    intro p fu v I hq eT eK ev hv hfu hp
    obtain ⟨fu, rfl⟩ : ∃ q, fu = q + 1 := ⟨fu - 1, by omega⟩
    exact ⟨fu, by omega, hend p fu v I (by omega) eK ev⟩
  | succ q ih =>
    intro p fu v I hq eT eK ev hv hfu hp
    obtain ⟨fu, rfl⟩ : ∃ q, fu = q + 1 := ⟨fu - 1, by omega⟩
    by_cases c : p < n ∧ dgB (B p) = true
    · have hbp := hB p
      have hdp := of_decide_eq_true c.2
      have hge := scT_ge dgB B n (p + 1)
      have hI : ∀ x : Int, lp (d + 1) 182 fu 169 [some (iR (some 88)), some (iI (n : Int)), none, some (iI (sb b)), some (iI ((scT dgB B n (p + 1) : Nat) : Int)), some (iI ((p + 1 : Nat) : Int))] [] (st h (up I 98 K x) J) = lp (d + 1) 182 fu 169 [some (iR (some 88)), some (iI (n : Int)), none, some (iI (sb b)), some (iI ((scT dgB B n (p + 1) : Nat) : Int)), some (iI ((p + 1 : Nat) : Int))] [] (st h (up I 98 K x) J) := fun x => rfl
      obtain ⟨fu', g1, g2⟩ := ih (p + 1) fu (if v ≤ 1000000 then 10 * v + B p - 48 else v) (up I 98 K (if v ≤ 1000000 then 10 * v + B p - 48 else v)) (by omega) (fun i hi => by rw [up_na (by omega)]; exact eT i hi) (by rw [up_na (by omega)]; exact eK) (by rw [up_eq]) (by split <;> omega) (by omega) (by omega)
      rw [scT_s c.1 c.2]
      refine ⟨fu', by omega, ?_⟩
      have evl : vlm B n (n - p) p v = vlm B n (n - (p + 1)) (p + 1) (if v ≤ 1000000 then 10 * v + B p - 48 else v) := by
        rw [show n - p = (n - (p + 1)) + 1 by omega]
        show (if p < n ∧ dgB (B p) = true then _ else _) = _
        rw [if_pos c]
      rw [up_up] at g2
      rw [evl, ← g2, e_M_splits_169, if_pos (by omega), s_isDigit _ hb, kI_o, if_pos hd, if_neg (by decide), ygR (bT_88 s) (bR_16 s), ygI (bT_88 s), eK, ygR (bT_88 s) (bR_16 s), ygI (bT_88 s), eK, xB_s, yaIv (i := K) (x := v) (bT_98 s) (bL_98 s) rfl (by omega) ev]
      have esb : sb (B p) = B p := by unfold sb; rw [if_pos (by omega)]
      by_cases c2 : v ≤ 1000000
      · rw [if_pos c2, if_pos c2, ygR (bT_88 s) (bR_16 s), ygI (bT_88 s), eK, xB_s, yaIv (i := K) (x := v) (bT_98 s) (bL_98 s) rfl (by omega) ev, ygR (bT_88 s) (bR_11 s), xB_s, yaBv (i := p) (x := B p) (Or.inl (bT_95 s)) (bL_95 s) rfl (by omega) (by rw [eT p c.1, esb]), xB_s, wr_id (x := 10 * v) (by omega) (by omega), wr_id (x := 10 * v + B p) (by omega) (by omega), wr_id (x := 10 * v + B p - 48) (by omega) (by omega), ysN (bT_98 s) (by omega) (bL_98 s) (by omega), wr_id (by omega) (by omega)]
        rfl
      · rw [if_neg c2, if_neg c2, ygR (bT_88 s) (bR_16 s), ygI (bT_88 s), eK, xB_s, yaIv (i := K) (x := v) (bT_98 s) (bL_98 s) rfl (by omega) ev, xB_s, ysN (bT_98 s) (by omega) (bL_98 s) (by omega), wr_id (by omega) (by omega)]
        rfl
    · exact ⟨fu, by omega, hend p fu v I c eK ev⟩
end P62b
