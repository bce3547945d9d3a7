/-! The words' length, its signs: the JDK's own methods (still to be walked) -/
section P11S
variable {l : Launch} {G : EG} {d y pc : Nat} {ls : AL} {st : List AV} {h : AH} {q : RR}
def am_sl : List (Nat × Nat) := [(5, 80)]
def am_sc : List (Nat × Nat) := [(5, 85)]
theorem s_slen {idx : Nat} (hd : decode (mBy y) pc = .ok (.invokevirtual idx, 3)) (hl : (mOc y, idx) ∈ am_sl) (hlow : am_low st = true) (hdd : 6 ≤ d) (hV : V l G d y (pc + 3) ls (vI 135 :: st) h q) : V l G d y pc ls (vR (some 2) :: st) h q := by
  sorry
theorem s_schr {idx : Nat} {i : Int32} (hd : decode (mBy y) pc = .ok (.invokevirtual idx, 3)) (hl : (mOc y, idx) ∈ am_sc) (hi : ¬ i < 0) (hi2 : i.toNatClampNeg < 135) (hlow : am_low st = true) (hdd : 6 ≤ d) (hV : V l G d y (pc + 3) ls (vI (am_wb.getD i.toNatClampNeg 0) :: st) h q) : V l G d y pc ls (vI i :: vR (some 2) :: st) h q := by
  sorry
end P11S
