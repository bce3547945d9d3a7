/-! One found more: the class's rows (by program, wip/whole/gen98zn.py) -/
section P98zn
variable {d n qc pc sc : Nat} {I I' J J1 : Nat → Nat → Int} {h : IH} {a b : Nat → Nat} {snd : Nat → Nat → Nat → Bool} {S : BSt}
theorem id_pack (hn : n ≤ 7) (p : PermN n a) (t : ∀ j, n ≤ j → a j = j) : packA a = packA (fun i => i) ↔ numA n a = 0 := by
  have np := num_pack hn p (perm_id n) t (fun _ _ => rfl)
  have n0 : numA n (fun i => i) = 0 := (numA_0 (perm_id n)).2 fun _ _ => rfl
  rw [n0] at np
  constructor
  · intro z
    exact np.1 (by rw [z])
  · intro z
    have h := pack_inj (perm_up hn p t) (perm_id 7) (np.2 z)
    unfold packA
    rw [h 0 (by omega), h 1 (by omega), h 2 (by omega), h 3 (by omega), h 4 (by omega), h 5 (by omega), h 6 (by omega)]
theorem pk_nm (hn : n ≤ 7) (b : BOk n S) (tl : ∀ i, i < S.1 → ∀ j, n ≤ j → S.2.1 i j = j) (p : PermN n a) (t : ∀ j, n ≤ j → a j = j) : inB (pkB S) (packA a % 262144) S.1 = inB (nmB n S) (numA n a) S.1 := by
  cases e : inB (nmB n S) (numA n a) S.1 with
  | true =>
    obtain ⟨i, i1, i2⟩ := (inB_iff S.1).1 e
    exact (inB_iff S.1).2 ⟨i, i1, (num_pack hn (b.2.1 i i1) p (tl i i1) t).2 i2⟩
  | false =>
    have h := inB_not.1 e
    exact inB_not.2 fun i i1 i2 => h i i1 ((num_pack hn (b.2.1 i i1) p (tl i i1) t).1 i2)
theorem HwT.add (w : HwT I J qc pc sc n S) (b : BOk n S) (hn : n ≤ 7) (hq : qc ≠ pc) (q83 : qc ≠ 83) (p83 : pc ≠ 83) {hd e : Nat} (hh : hd < S.1) (p : PermN n a) (t : ∀ j, n ≤ j → a j = j) (fresh : inB (nmB n S) (numA n a) S.1 = false) (hJ : ∀ W : Nat → Nat, (∀ p, p < 4096 → J sc p = jv (W p)) → ∀ p, p < 4096 → J1 sc p = jv (if p = packA a % 262144 / 64 then W p ||| 2 ^ (packA a % 64) else W p)) (h1 : ∀ i, I' qc i = if i = S.1 then ((packA a + 2097152 * e : Nat) : Int) else I qc i) (h2 : ∀ i, I' pc i = if i = S.1 then (hd : Int) else I pc i) (h3 : I' 83 1 = if packA a = packA (fun i => i) then (S.1 : Int) else I 83 1) : HwT I' J1 qc pc sc n (addB S a hd e) := by
  obtain ⟨w1, ⟨W, w2, w3⟩, w4, w5⟩ := w
  have b0 := b.1
  have f := inB_not.1 fresh
  have hN : ∀ i, nmB n (addB S a hd e) i = if i = S.1 then numA n a else nmB n S i := fun i => by
    unfold nmB
    show numA n (if i = S.1 then a else S.2.1 i) = _
    split <;> rfl
  have hP : ∀ i, pkB (addB S a hd e) i = if i = S.1 then packA a % 262144 else pkB S i := fun i => by
    unfold pkB
    show packA (if i = S.1 then a else S.2.1 i) % 262144 = _
    split <;> rfl
  have iN : inB (nmB n (addB S a hd e)) 0 (S.1 + 1) = (decide (numA n a = 0) || inB (nmB n S) 0 S.1) := by
    show (decide (nmB n (addB S a hd e) S.1 = 0) || inB (nmB n (addB S a hd e)) 0 S.1) = _
    rw [hN, if_pos rfl, inB_cg (N := nmB n S) S.1 fun i hi => by rw [hN, if_neg (by omega)]]
  refine ⟨fun i hi => ?_, ⟨_, hJ W w2, fun v hv => ?_⟩, ?_, fun i hi j hj => ?_⟩
  · have hi' : i < S.1 + 1 := hi
    rw [h1, h2]
    show _ = ((packA (if i = S.1 then a else S.2.1 i) + 2097152 * (if i = S.1 then e else S.2.2.2 i) : Nat) : Int) ∧ _ = if i = 0 then -1 else (((if i = S.1 then hd else S.2.2.1 i) : Nat) : Int)
    by_cases z : i = S.1
    · rw [if_pos z, if_pos z, if_pos z, if_pos z, if_pos z, if_neg (show ¬ i = 0 by omega)]
      exact ⟨rfl, rfl⟩
    · rw [if_neg z, if_neg z, if_neg z, if_neg z, if_neg z]
      exact w1 i (by omega)
  · show (if v / 64 = packA a % 262144 / 64 then W (v / 64) ||| 2 ^ (packA a % 64) else W (v / 64)).testBit (v % 64) = (decide (pkB (addB S a hd e) S.1 = v) || inB (pkB (addB S a hd e)) v S.1)
    rw [hP, if_pos rfl, inB_cg (N := pkB S) S.1 fun i hi => by rw [hP, if_neg (by omega)], ← w3 v hv]
    by_cases c : v / 64 = packA a % 262144 / 64
    · rw [if_pos c, Nat.testBit_or, Nat.testBit_two_pow]
      by_cases c2 : packA a % 262144 = v
      · simp [c2, show packA a % 64 = v % 64 by omega]
      · simp [c2, show ¬ packA a % 64 = v % 64 by omega]
    · rw [if_neg c]
      simp [show ¬ packA a % 262144 = v by omega]
  · show _ = if inB (nmB n (addB S a hd e)) 0 (S.1 + 1) = true then (((if nmB n (addB S a hd e) S.1 = 0 then S.1 else idxB (nmB n (addB S a hd e)) 0 S.1) : Nat) : Int) else -1
    have ei : ∀ t, t ≤ S.1 → idxB (nmB n (addB S a hd e)) 0 t = idxB (nmB n S) 0 t := by
      intro t
      induction t with
      | zero => intro _; rfl
      | succ t ih =>
        intro ht
        show (if nmB n (addB S a hd e) t = 0 then t else idxB (nmB n (addB S a hd e)) 0 t) = (if nmB n S t = 0 then t else idxB (nmB n S) 0 t)
        rw [hN t, if_neg (show ¬ t = S.1 by omega), ih (by omega)]
    rw [h3, iN, hN, if_pos rfl, ei S.1 (Nat.le_refl _), w4]
    have hz := id_pack hn p t
    by_cases c : numA n a = 0
    · rw [if_pos (hz.2 c), if_pos (by simp [c]), if_pos c]
    · rw [if_neg (fun z => c (hz.1 z)), if_neg c]
      simp [c]
  · have hi' : i < S.1 + 1 := hi
    show (if i = S.1 then a else S.2.1 i) j = j
    by_cases z : i = S.1
    · rw [if_pos z]
      exact t j hj
    · rw [if_neg z]
      exact w5 i (by omega) j hj
end P98zn
