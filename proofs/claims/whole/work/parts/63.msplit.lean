/-! The reference's tokens, the whole (by program, wip/whole/gen63.py) -/
/-- what splitting leaves as it is -/
def SpFr (I' I : Nat → Nat → Int) : Prop := (∀ b, b ≠ 88 → b ≠ 97 → b ≠ 98 → b ≠ 99 → I' b = I b) ∧ ∀ i, i ≠ 18 → I' 88 i = I 88 i
theorem SpFr.rf (I : Nat → Nat → Int) : SpFr I I := ⟨fun _ _ _ _ _ => rfl, fun _ _ => rfl⟩
theorem SpFr.tr {A B C : Nat → Nat → Int} (h1 : SpFr A B) (h2 : SpFr B C) : SpFr A C := ⟨fun b a1 a2 a3 a4 => (h1.1 b a1 a2 a3 a4).trans (h2.1 b a1 a2 a3 a4), fun i hi => (h1.2 i hi).trans (h2.2 i hi)⟩
/-- a token's rows written -/
def tokI (I : Nat → Nat → Int) (K : Nat) (k v c : Int) : Nat → Nat → Int := up (up (up (up I 99 K k) 97 K c) 98 K v) 88 18 ((K + 1 : Nat) : Int)
theorem tokI_fr (I : Nat → Nat → Int) (K : Nat) (k v c : Int) : SpFr (tokI I K k v c) I := by
  unfold tokI
  exact ⟨fun b a1 a2 a3 a4 => by rw [up_na a1, up_na a3, up_na a2, up_na a4], fun i hi => by rw [up_ni hi, up_na (by omega), up_na (by omega), up_na (by omega)]⟩
theorem tokI_ok {B : Nat → Int} {n : Nat} {I : Nat → Nat → Int} {K : Nat} {k : Nat} {v c : Int} (h : TkOk B n I K) (h1 : k = tkF B n (posT B n K)) (h2 : c = cdM B n (posT B n K)) (h3 : v = vlM B n (posT B n K)) (h4 : k < n) : TkOk B n (tokI I K k v c) (K + 1) := by
  intro j hj
  unfold tokI
  by_cases z : j = K
  · subst z
    refine ⟨by rw [up_na (by omega), up_na (by omega), up_na (by omega), up_eq, h1], by rw [up_na (by omega), up_na (by omega), up_eq, h2], by rw [up_na (by omega), up_eq, h3], by rw [← h1]; exact h4⟩
  · obtain ⟨a1, a2, a3, a4⟩ := h j (by omega)
    exact ⟨by rw [up_na (by omega), up_na (by omega), up_na (by omega), up_ni z]; exact a1, by rw [up_na (by omega), up_na (by omega), up_ni z, up_na (by omega)]; exact a2, by rw [up_na (by omega), up_ni z, up_na (by omega), up_na (by omega)]; exact a3, a4⟩
section P63
variable {d n : Nat} {h : IH} {J : Nat → Nat → Int} {B : Nat → Int}
theorem l_100 (s : ShM h 88) (hB : ∀ i, 0 ≤ B i ∧ B i ≤ 255) (hn : n ≤ 400) {I : Nat → Nat → Int} (eW : ∀ i, I 94 i = wordB.getD i 0) (eT : ∀ i, i < n → I 95 i = sb (B i)) {k t K : Nat} (hk : k < t) (ht : t ≤ n) (hK : K ≤ 400) (eK : I 88 18 = K) (fu : Nat) : lp (d + 2) 182 (fu + 1) 100 [some (iR (some 88)), some (iI (n : Int)), some (iI (k : Int)), some (iI (sb (B k))), some (iI (t : Int)), none] [] (st h I J) = lp (d + 2) 182 fu 169 [some (iR (some 88)), some (iI (n : Int)), none, some (iI (sb (B k))), some (iI (t : Int)), some (iI (k : Int))] [] (st h (up (up (up I 99 K (k : Int)) 98 K 0) 97 K (if ltB (B k) = true then trC (wordL B k t wordTb 256) else if dgB (B k) = true then 50 else 100 + B k)) J) := by
  have hbk := hB k
  have e18 : up (up I 99 K (k : Int)) 98 K 0 88 18 = K := by rw [up_na (by omega), up_na (by omega)]; exact eK
  rw [e_M_splits_100, ygR (bT_88 s) (bR_17 s), ygI (bT_88 s), eK, xB_s, ysN (bT_99 s) (by omega) (bL_99 s) (by omega), ygR (bT_88 s) (bR_16 s), ygI (bT_88 s), up_na (by omega), eK, xB_s, ysN (bT_98 s) (by omega) (bL_98 s) (by omega), ygR (bT_88 s) (bR_15 s), ygI (bT_88 s), e18, s_isSmall _ hbk, kI_o]
  by_cases c1 : ltB (B k) = true
  · rw [if_pos c1, if_neg (by decide), if_pos c1, yck (bT_88 s), s_wordOf s hB (fun i => by rw [up_na (by omega), up_na (by omega)]; exact eW i) (fun i hi => by rw [up_na (by omega), up_na (by omega)]; exact eT i hi) hn (f := k) (t := t) ⟨by omega, ht⟩, kI_o, xB_s, ysN (bT_97 s) (by omega) (bL_97 s) (by omega)]
  · rw [if_neg c1, if_pos rfl, if_neg c1, s_isDigit _ hbk, kI_o]
    by_cases c2 : dgB (B k) = true
    · rw [if_pos c2, if_neg (by decide), if_pos c2, xB_s, ysN (bT_97 s) (by omega) (bL_97 s) (by omega)]
    · rw [if_neg c2, if_pos rfl, if_neg c2, sb_and hbk, xB_s, ysN (bT_97 s) (by omega) (bL_97 s) (by omega), wr_id (by omega) (by omega)]
theorem l_169n (s : ShM h 88) (hB : ∀ i, 0 ≤ B i ∧ B i ≤ 255) {I : Nat → Nat → Int} {k t K : Nat} (hk : k < t) (hK : K ≤ 400) (eK : I 88 18 = K) (hd : ¬ dgB (B k) = true) (fu : Nat) : lp (d + 2) 182 (fu + 1) 169 [some (iR (some 88)), some (iI (n : Int)), none, some (iI (sb (B k))), some (iI (t : Int)), some (iI (k : Int))] [] (st h I J) = lp (d + 2) 182 fu 7 [some (iR (some 88)), some (iI (n : Int)), some (iI (t : Int)), none, none, none] [] (st h (up I 88 18 ((K + 1 : Nat) : Int)) J) := by
  rw [e_M_splits_169, if_pos (by omega), s_isDigit _ (hB k), kI_o, if_neg hd, if_pos rfl, ygI (bT_88 s), eK, ypI (bT_88 s) (by omega), wr_id (by omega) (by omega)]
  rfl
theorem up_sw (I : Nat → Nat → Int) {a b i j : Nat} (x y : Int) (z : a ≠ b) : up (up I a i x) b j y = up (up I b j y) a i x := by
  funext q k
  unfold up
  by_cases c1 : q = b ∧ k = j
  · rw [if_pos c1, if_neg (by omega), if_pos c1]
  · rw [if_neg c1]
    by_cases c2 : q = a ∧ k = i
    · rw [if_pos c2, if_pos c2]
    · rw [if_neg c2, if_neg c2, if_neg c1]
theorem l_splits (s : ShM h 88) (hB : ∀ i, 0 ≤ B i ∧ B i ≤ 255) (hn : n ≤ 400) : ∀ (q k K fu : Nat) (I : Nat → Nat → Int), n - k ≤ q → k ≤ n → scT spB B n k = tkF B n (posT B n K) → TkOk B n I K → K ≤ k → I 88 18 = K → (∀ i, I 94 i = wordB.getD i 0) → (∀ i, i < n → I 95 i = sb (B i)) → 3 * (n - k) + 3 * q + 3 ≤ fu → ∃ I' K', SpFr I' I ∧ lp (d + 2) 182 fu 7 [some (iR (some 88)), some (iI (n : Int)), some (iI (k : Int)), none, none, none] [] (st h I J) = some (o0, st h I' J) ∧ (I' 88 18 = ((K' : Nat) : Int) ∧ K' ≤ n) ∧ TkOk B n I' K' ∧ tkF B n (posT B n K') = n ∧ (I' 99 K' = n ∧ I' 97 K' = 0 ∧ I' 98 K' = 0) := by
  intro q
  induction q with
  | zero =>
    intro k K fu I hq hk hsc hT hKk eK eW eT hfu
    have hkn : k = n := by omega
    subst hkn
    obtain ⟨fu, rfl⟩ : ∃ q, fu = q + 2 := ⟨fu - 2, by omega⟩
    have eF : tkF B k (posT B k K) = k := by rw [← hsc, scT_e (by omega)]
    refine ⟨up (up (up I 99 K (k : Int)) 97 K 0) 98 K 0, K, ⟨fun b a1 a2 a3 a4 => by rw [up_na a3, up_na a2, up_na a4], fun i hi => by rw [up_na (by omega), up_na (by omega), up_na (by omega)]⟩, ?_, ⟨by rw [up_na (by omega), up_na (by omega), up_na (by omega)]; exact eK, hKk⟩, ?_, eF, ⟨by rw [up_na (by omega), up_na (by omega), up_eq], by rw [up_na (by omega), up_eq], up_eq _ _ _ _⟩⟩
    · rw [e_M_splits_7, if_neg (by omega), ygR (bT_88 s) (bR_17 s), ygI (bT_88 s), eK, xB_s, ysN (bT_99 s) (by omega) (bL_99 s) (by omega), ygR (bT_88 s) (bR_15 s), ygI (bT_88 s), up_na (by omega), eK, xB_s, ysN (bT_97 s) (by omega) (bL_97 s) (by omega), e_M_splits_283, ygR (bT_88 s) (bR_16 s), ygI (bT_88 s), up_na (by omega), up_na (by omega), eK, xB_s, ysN (bT_98 s) (by omega) (bL_98 s) (by omega)]
    · intro j hj
      obtain ⟨a1, a2, a3, a4⟩ := hT j hj
      exact ⟨by rw [up_na (by omega), up_na (by omega), up_ni (by omega)]; exact a1, by rw [up_na (by omega), up_ni (by omega), up_na (by omega)]; exact a2, by rw [up_ni (by omega), up_na (by omega), up_na (by omega)]; exact a3, a4⟩
  | succ q ih =>
    intro k K fu I hq hk hsc hT hKk eK eW eT hfu
    by_cases hkn : k = n
    · have hsc' : n - k ≤ q := by omega
      exact ih k K fu I hsc' hk hsc hT hKk eK eW eT (by omega)
    · have hk1 : k < n := by omega
      have hbk := hB k
      obtain ⟨fu, rfl⟩ : ∃ q, fu = q + 1 := ⟨fu - 1, by omega⟩
      have hd7 : lp (d + 2) 182 (fu + 1) 7 [some (iR (some 88)), some (iI (n : Int)), some (iI (k : Int)), none, none, none] [] (st h I J) = if B k = 32 then lp (d + 2) 182 fu 7 [some (iR (some 88)), some (iI (n : Int)), some (iI ((k + 1 : Nat) : Int)), none, none, none] [] (st h I J) else if ltB (B k) = true then lp (d + 2) 182 fu 43 [some (iR (some 88)), some (iI (n : Int)), some (iI (k : Int)), some (iI (sb (B k))), some (iI ((k + 1 : Nat) : Int)), none] [] (st h I J) else if dgB (B k) = true then lp (d + 2) 182 fu 75 [some (iR (some 88)), some (iI (n : Int)), some (iI (k : Int)), some (iI (sb (B k))), some (iI ((k + 1 : Nat) : Int)), none] [] (st h I J) else lp (d + 2) 182 fu 100 [some (iR (some 88)), some (iI (n : Int)), some (iI (k : Int)), some (iI (sb (B k))), some (iI ((k + 1 : Nat) : Int)), none] [] (st h I J) := by
        have e32 : sb (B k) = 32 ↔ B k = 32 := by unfold sb; split <;> omega
        rw [e_M_splits_7, if_pos (by omega), ygR (bT_88 s) (bR_11 s), xB_s, yaBv (i := k) (x := sb (B k)) (Or.inl (bT_95 s)) (bL_95 s) rfl (by omega) (eT k hk1), wr_id (by omega) (by omega)]
        by_cases c0 : B k = 32
        · rw [if_pos (e32.mpr c0), if_pos c0]
          rfl
        · rw [if_neg (fun z => c0 (e32.mp z)), if_neg c0, s_isSmall _ hbk, kI_o]
          by_cases c1 : ltB (B k) = true
          · rw [if_pos c1, if_neg (by decide), if_pos c1]
            rfl
          · rw [if_neg c1, if_pos rfl, if_neg c1, s_isDigit _ hbk, kI_o]
            by_cases c2 : dgB (B k) = true
            · rw [if_pos c2, if_neg (by decide), if_pos c2]
              rfl
            · rw [if_neg c2, if_pos rfl, if_neg c2]
              rfl
      rw [hd7]
      by_cases c0 : B k = 32
      · rw [if_pos c0]
        exact ih (k + 1) K fu I (by omega) (by omega) (by rw [← hsc, scT_s hk1 (decide_eq_true c0)]) hT (by omega) eK eW eT (by omega)
      · rw [if_neg c0]
        have eF : tkF B n (posT B n K) = k := by rw [← hsc, scT_e (fun z => c0 (of_decide_eq_true z.2))]
        have pn := posT_le (B := B) (n := n) K
        -- behind the token
        have next : ∀ (t : Nat) (v c : Int) (fu' : Nat), tkE B n (posT B n K) = t → k < t → t ≤ n → c = cdM B n (posT B n K) → v = vlM B n (posT B n K) → 3 * (n - t) + 3 * q + 3 ≤ fu' → ∃ I' K', SpFr I' I ∧ lp (d + 2) 182 fu' 7 [some (iR (some 88)), some (iI (n : Int)), some (iI (t : Int)), none, none, none] [] (st h (tokI I K (k : Int) v c) J) = some (o0, st h I' J) ∧ (I' 88 18 = ((K' : Nat) : Int) ∧ K' ≤ n) ∧ TkOk B n I' K' ∧ tkF B n (posT B n K') = n ∧ (I' 99 K' = n ∧ I' 97 K' = 0 ∧ I' 98 K' = 0) := by
          intro t v c fu' ht1 ht2 ht3 hc hv hf
          have fr := tokI_fr I K (k : Int) v c
          obtain ⟨I', K', b1, b2⟩ := ih t (K + 1) fu' (tokI I K (k : Int) v c) (by omega) ht3 (by show scT spB B n t = tkF B n (tkE B n (posT B n K)); rw [ht1]; rfl) (tokI_ok hT eF.symm hc hv hk1) (by omega) (by unfold tokI; rw [up_eq]) (fun i => by rw [fr.1 94 (by omega) (by omega) (by omega) (by omega)]; exact eW i) (fun i hi => by rw [fr.1 95 (by omega) (by omega) (by omega) (by omega)]; exact eT i hi) hf
          exact ⟨I', K', b1.tr fr, b2⟩
        have tD : tkD B n (posT B n K) = scT dgB B n k := by unfold tkD; rw [eF]
        have tL : tkL B n (posT B n K) = scT ltB B n k := by unfold tkL; rw [eF]
        have K4 : K ≤ 400 := by omega
        by_cases c1 : ltB (B k) = true
        · have nd : ¬ dgB (B k) = true := fun z => by
            have h1 := of_decide_eq_true c1
            have h2 := of_decide_eq_true z
            omega
          have eD : scT dgB B n k = k := scT_e (fun z => nd z.2)
          have eL : scT ltB B n k = scT ltB B n (k + 1) := scT_s hk1 c1
          have hge := scT_ge ltB B n (k + 1)
          have hle := scT_le ltB B (show k + 1 ≤ n by omega)
          obtain ⟨fu', g1, g2⟩ := l_43 (d := d + 1) (J := J) s hB hn eT (k := k) (b := B k) hbk nd (n - (k + 1)) (k + 1) fu (by omega) (by omega)
          obtain ⟨fu', rfl⟩ : ∃ q, fu' = q + 2 := ⟨fu' - 2, by omega⟩
          have eE : tkE B n (posT B n K) = scT ltB B n (k + 1) := by
            unfold tkE
            rw [eF, tD, tL, eD, eL, if_neg (by omega), if_pos hk1, if_pos (by omega)]
          have eC : trC (wordL B k (scT ltB B n (k + 1)) wordTb 256) = cdM B n (posT B n K) := by
            unfold cdM
            rw [eF, tD, tL, eD, eL, if_neg (by omega), if_pos hk1, if_pos (by omega)]
          have eV : (0 : Int) = vlM B n (posT B n K) := by
            unfold vlM
            rw [eF, show n - k = (n - k - 1) + 1 by omega]
            show 0 = (if k < n ∧ dgB (B k) = true then _ else (0 : Int))
            rw [if_neg (fun z => nd z.2)]
          rw [if_pos c1, g2, l_100 s hB hn eW eT (by omega) hle K4 eK, if_pos c1, l_169n s hB (by omega) K4 (by rw [up_na (by omega), up_na (by omega), up_na (by omega)]; exact eK) nd]
          obtain ⟨I', K', b1, b2⟩ := next (scT ltB B n (k + 1)) 0 (trC (wordL B k (scT ltB B n (k + 1)) wordTb 256)) fu' eE (by omega) hle eC eV (by omega)
          rw [up_sw (up I 99 K (k : Int)) _ _ (show 98 ≠ 97 by omega)]
          exact ⟨I', K', b1, b2⟩
        · rw [if_neg c1]
          have eL : scT ltB B n k = k := scT_e (fun z => c1 z.2)
          by_cases c2 : dgB (B k) = true
          · have eD : scT dgB B n k = scT dgB B n (k + 1) := scT_s hk1 c2
            have hge := scT_ge dgB B n (k + 1)
            have hle := scT_le dgB B (show k + 1 ≤ n by omega)
            obtain ⟨fu', g1, g2⟩ := l_75 (d := d + 1) (J := J) s hB hn eT (k := k) (b := sb (B k)) (n - (k + 1)) (k + 1) fu (by omega) (by omega)
            obtain ⟨fu', rfl⟩ : ∃ q, fu' = q + 1 := ⟨fu' - 1, by omega⟩
            have eE : tkE B n (posT B n K) = scT dgB B n (k + 1) := by
              unfold tkE
              rw [eF, tD, eD, if_pos (by omega)]
            have eC : (50 : Int) = cdM B n (posT B n K) := by
              unfold cdM
              rw [eF, tD, eD, if_pos (by omega)]
            rw [if_pos c2, g2, l_100 s hB hn eW eT (by omega) hle K4 eK, if_neg c1, if_pos c2]
            obtain ⟨fu2, k1, k2⟩ := l_169d (d := d + 1) (J := J) s hB hn hbk c2 K4 (n - k) k fu' 0 (up (up (up I 99 K (k : Int)) 98 K 0) 97 K 50) (Nat.le_refl _) (fun i hi => by rw [up_na (by omega), up_na (by omega), up_na (by omega)]; exact eT i hi) (by rw [up_na (by omega), up_na (by omega), up_na (by omega)]; exact eK) (by rw [up_na (by omega), up_eq]) (by omega) (by omega) hk
            rw [eD] at k1 k2
            obtain ⟨I', K', b1, b2⟩ := next (scT dgB B n (k + 1)) (vlm B n (n - k) k 0) 50 fu2 eE (by omega) hle eC (by unfold vlM; rw [eF]) (by omega)
            have ei : up (up (up (up (up I 99 K (k : Int)) 98 K 0) 97 K 50) 98 K (vlm B n (n - k) k 0)) 88 18 ((K + 1 : Nat) : Int) = tokI I K (k : Int) (vlm B n (n - k) k 0) 50 := by
              unfold tokI
              rw [up_sw (up I 99 K (k : Int)) 0 50 (show 98 ≠ 97 by omega), up_up]
            rw [ei] at k2
            exact ⟨I', K', b1, k2.trans b2.1, b2.2⟩
          · have eD : scT dgB B n k = k := scT_e (fun z => c2 z.2)
            obtain ⟨fu, rfl⟩ : ∃ q, fu = q + 2 := ⟨fu - 2, by omega⟩
            have eE : tkE B n (posT B n K) = k + 1 := by
              unfold tkE
              rw [eF, tD, tL, eD, eL, if_neg (by omega), if_pos hk1, if_neg (by omega)]
            have eC : 100 + B k = cdM B n (posT B n K) := by
              unfold cdM
              rw [eF, tD, tL, eD, eL, if_neg (by omega), if_pos hk1, if_neg (by omega)]
            have eV : (0 : Int) = vlM B n (posT B n K) := by
              unfold vlM
              rw [eF, show n - k = (n - k - 1) + 1 by omega]
              show 0 = (if k < n ∧ dgB (B k) = true then _ else (0 : Int))
              rw [if_neg (fun z => c2 z.2)]
            rw [if_neg c2, l_100 s hB hn eW eT (by omega) (by omega) K4 eK, if_neg c1, if_neg c2, l_169n s hB (by omega) K4 (by rw [up_na (by omega), up_na (by omega), up_na (by omega)]; exact eK) c2]
            obtain ⟨I', K', b1, b2⟩ := next (k + 1) 0 (100 + B k) fu eE (by omega) (by omega) eC eV (by omega)
            rw [up_sw (up I 99 K (k : Int)) _ _ (show 98 ≠ 97 by omega)]
            exact ⟨I', K', b1, b2⟩
theorem s_splits (s : ShM h 88) (hB : ∀ i, 0 ≤ B i ∧ B i ≤ 255) (hn : n ≤ 400) {I : Nat → Nat → Int} (eW : ∀ i, I 94 i = wordB.getD i 0) (eT : ∀ i, i < n → I 95 i = sb (B i)) : ∃ I' K', SpFr I' I ∧ rn (d + 3) 182 [iR (some 88), iI (n : Int)] (st h I J) = some (o0, st h I' J) ∧ (I' 88 18 = ((K' : Nat) : Int) ∧ K' ≤ n) ∧ TkOk B n I' K' ∧ tkF B n (posT B n K') = n ∧ (I' 99 K' = n ∧ I' 97 K' = 0 ∧ I' 98 K' = 0) := by
  obtain ⟨I', K', a1, a2, a3⟩ := l_splits (d := d) (J := J) s hB hn n 0 0 999999 (up I 88 18 0) (by omega) (Nat.zero_le n) rfl (fun j hj => absurd hj (by omega)) (Nat.le_refl _) (by rw [up_eq]; rfl) (fun i => by rw [up_na (by omega)]; exact eW i) (fun i hi => by rw [up_na (by omega)]; exact eT i hi) (by omega)
  refine ⟨I', K', a1.tr ⟨fun b b1 b2 b3 b4 => up_na b1, fun i hi => up_ni hi⟩, ?_, a3⟩
  rw [r_M_splits, e_M_splits, ypI (bT_88 s) (by omega)]
  exact a2
end P63
