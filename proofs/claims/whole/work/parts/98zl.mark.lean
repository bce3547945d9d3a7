/-! A packed arrangement marked as seen: the class (by program, wip/whole/gen98zl.py) -/
/-- the blocks of the search stand -/
def WyS (h : IH) (qc pc sc : Nat) : Prop := (hR h 83 6 = some qc ∧ hR h 83 7 = some pc ∧ hR h 83 8 = some sc) ∧ (hT h qc = 0 ∧ hL h qc = 5040 ∧ 118 ≤ qc) ∧ (hT h pc = 0 ∧ hL h pc = 5040 ∧ 118 ≤ pc) ∧ (hT h sc = 1 ∧ hL h sc = 4096 ∧ 118 ≤ sc) ∧ qc ≠ pc
section P98zl
variable {d n : Nat} {I I' J : Nat → Nat → Int} {h : IH} {qc pc sc : Nat}
theorem t_mark (s : ShT h) (y : WyS h qc pc sc) {w : Nat → Nat} (e : ∀ p, p < 4096 → J sc p = jv (w p)) {v : Nat} (hv : v < 2097152) : ∃ J1 : Nat → Nat → Int, (∀ p, p < 4096 → J1 sc p = jv (if p = v % 262144 / 64 then w p ||| 2 ^ (v % 64) else w p)) ∧ rn (d + 1) 95 [iR (some 83), iI (v : Int)] (st h I J) = some (oI (if (w (v % 262144 / 64)).testBit (v % 64) = true then 0 else 1), st h I J1) := by
  obtain ⟨⟨-, -, y3⟩, -, -, ⟨y4, y5, y6⟩, -⟩ := y
  have a1 : iand (v : Int) 262143 = ((v % 262144 : Nat) : Int) := by
    have := iand_n (a := v) (b := 262143) (by omega)
    rw [and_18] at this
    exact this
  have a2 : ishr ((v % 262144 : Nat) : Int) 6 = ((v % 262144 / 64 : Nat) : Int) := ishr_n (a := v % 262144) (k := 6) (by omega) (by omega)
  have a3 : iand (v : Int) 63 = ((v % 64 : Nat) : Int) := by
    have := iand_n (a := v) (b := 63) (by omega)
    rw [and_63] at this
    exact this
  have a4 : lshl 1 ((v % 64 : Nat) : Int) = jv (2 ^ (v % 64)) := lshl_n (by omega)
  obtain ⟨p, ep⟩ : ∃ p, p = v % 262144 / 64 := ⟨_, rfl⟩
  obtain ⟨b, eb⟩ : ∃ b, b = v % 64 := ⟨_, rfl⟩
  rw [← ep] at a2 ⊢
  rw [← eb] at a3 a4 ⊢
  have hp : p < 4096 := by omega
  have hr : ∀ k : Int → Option IR, xaJ (st h I J) sc (p : Int) k = k (jv (w p)) := fun k => by
    rw [yaJ y4 y5 (by omega) (by omega), Int.toNat_natCast, e p hp]
  have hJ : ∀ q, q < 4096 → (up J sc p (jv (w p ||| 2 ^ b))) sc q = jv (if q = p then w q ||| 2 ^ b else w q) := fun q hq => by
    rw [up_at]
    by_cases c : q = p
    · rw [if_pos c, if_pos c, c]
    · rw [if_neg c, if_neg c]
      exact e q hq
  refine ⟨up J sc p (jv (w p ||| 2 ^ b)), hJ, ?_⟩
  rw [r_Wh_markSeen, e_Wh_markSeen, ygR (aT_83 s) y3, xB_s, a1, a2, a3, a4, hr, land_n]
  cases c : (w p).testBit b with
  | false =>
    rw [if_pos ((lcmp_0 _).2 ((jv_bit (by omega)).2 c)), ygR (aT_83 s) y3, xB_s, hr, lor_n, xB_s, ysJ y4 (by omega) y5 (by omega) (by omega), Int.toNat_natCast, xZ_1, if_neg (show ¬ (false = true) by decide)]
  | true =>
    rw [if_neg (fun z => by
      have := (jv_bit (w := w p) (k := b) (by omega)).1 ((lcmp_0 _).1 z)
      rw [c] at this
      cases this), ygR (aT_83 s) y3, xB_s, hr, lor_n, xB_s, ysJ y4 (by omega) y5 (by omega) (by omega), Int.toNat_natCast, xZ_0, if_pos (show (true = true) from rfl)]
end P98zl
