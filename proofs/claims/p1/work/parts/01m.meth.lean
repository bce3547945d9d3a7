/-! The words of every method; calls -/
def mNm (y : Nat) : MethodName := (am_m y).1
def mOc (y : Nat) : Nat := (am_m y).2.1
def mBy (y : Nat) : ByteArray := (am_m y).2.2.1
def mMl (y : Nat) : Nat := (am_m y).2.2.2.1
def mRt (y : Nat) : Option FieldType := (am_m y).2.2.2.2
def gdW : List Cond := lw_tbl.filter goodWord
theorem gd_in {w : Cond} (h : w ∈ lw_tbl) (g : goodWord w = true) : w ∈ gdW := List.mem_filter.mpr ⟨h, g⟩
def am_np (k : Nat) : Nat := match parseMethodDescriptor (mNm k).desc with
  | some dd => dd.parameters.length
  | none => 99
def mKd (k : Nat) : Nat := am_kd.getD k 9
def mPl (k : Nat) : Nat × Nat × Nat × Nat := am_mp.getD k (0, 0, 0, 0)
def am_w2 (k : Nat) : Cond := match mKd k with
  | 1 => .static (mNm k)
  | _ => .instanceMethod (mNm k)
def am_w3 (k : Nat) : Cond := match mKd k with
  | 0 => .selects (mNm k).cls (mNm k) (mNm k)
  | _ => .initialized (mNm k).cls
def am_p3 (k : Nat) : Nat := match mKd k with
  | 0 => (mPl k).2.2.1
  | _ => (mPl k).2.2.2
set_option maxRecDepth 100000 in
set_option maxHeartbeats 40000000 in
theorem mw1_0 : (List.range 50).map (fun i => lw_tbl[(mPl (0 + i)).1]?) = (List.range 50).map (fun i => some (Cond.code (mNm (0 + i)) (mBy (0 + i)) (mMl (0 + i)) (mRt (0 + i)))) := rfl
set_option maxRecDepth 100000 in
theorem mw2_0 : (List.range 50).map (fun i => lw_tbl[(mPl (0 + i)).2.1]?) = (List.range 50).map (fun i => some (am_w2 (0 + i))) := by decide +kernel
set_option maxRecDepth 100000 in
theorem mw3_0 : (List.range 50).map (fun i => lw_tbl[am_p3 (0 + i)]?) = (List.range 50).map (fun i => some (am_w3 (0 + i))) := by decide +kernel
set_option maxRecDepth 100000 in
theorem mw4_0 : (List.range 50).map (fun i => lw_tbl[(mPl (0 + i)).2.2.2]?) = (List.range 50).map (fun i => some (Cond.initialized (mNm (0 + i)).cls)) := by decide +kernel
set_option maxRecDepth 100000 in
set_option maxHeartbeats 40000000 in
theorem mw1_1 : (List.range 50).map (fun i => lw_tbl[(mPl (50 + i)).1]?) = (List.range 50).map (fun i => some (Cond.code (mNm (50 + i)) (mBy (50 + i)) (mMl (50 + i)) (mRt (50 + i)))) := rfl
set_option maxRecDepth 100000 in
theorem mw2_1 : (List.range 50).map (fun i => lw_tbl[(mPl (50 + i)).2.1]?) = (List.range 50).map (fun i => some (am_w2 (50 + i))) := by decide +kernel
set_option maxRecDepth 100000 in
theorem mw3_1 : (List.range 50).map (fun i => lw_tbl[am_p3 (50 + i)]?) = (List.range 50).map (fun i => some (am_w3 (50 + i))) := by decide +kernel
set_option maxRecDepth 100000 in
theorem mw4_1 : (List.range 50).map (fun i => lw_tbl[(mPl (50 + i)).2.2.2]?) = (List.range 50).map (fun i => some (Cond.initialized (mNm (50 + i)).cls)) := by decide +kernel
set_option maxRecDepth 100000 in
set_option maxHeartbeats 40000000 in
theorem mw1_2 : (List.range 50).map (fun i => lw_tbl[(mPl (100 + i)).1]?) = (List.range 50).map (fun i => some (Cond.code (mNm (100 + i)) (mBy (100 + i)) (mMl (100 + i)) (mRt (100 + i)))) := rfl
set_option maxRecDepth 100000 in
theorem mw2_2 : (List.range 50).map (fun i => lw_tbl[(mPl (100 + i)).2.1]?) = (List.range 50).map (fun i => some (am_w2 (100 + i))) := by decide +kernel
set_option maxRecDepth 100000 in
theorem mw3_2 : (List.range 50).map (fun i => lw_tbl[am_p3 (100 + i)]?) = (List.range 50).map (fun i => some (am_w3 (100 + i))) := by decide +kernel
set_option maxRecDepth 100000 in
theorem mw4_2 : (List.range 50).map (fun i => lw_tbl[(mPl (100 + i)).2.2.2]?) = (List.range 50).map (fun i => some (Cond.initialized (mNm (100 + i)).cls)) := by decide +kernel
set_option maxRecDepth 100000 in
set_option maxHeartbeats 40000000 in
theorem mw1_3 : (List.range 50).map (fun i => lw_tbl[(mPl (150 + i)).1]?) = (List.range 50).map (fun i => some (Cond.code (mNm (150 + i)) (mBy (150 + i)) (mMl (150 + i)) (mRt (150 + i)))) := rfl
set_option maxRecDepth 100000 in
theorem mw2_3 : (List.range 50).map (fun i => lw_tbl[(mPl (150 + i)).2.1]?) = (List.range 50).map (fun i => some (am_w2 (150 + i))) := by decide +kernel
set_option maxRecDepth 100000 in
theorem mw3_3 : (List.range 50).map (fun i => lw_tbl[am_p3 (150 + i)]?) = (List.range 50).map (fun i => some (am_w3 (150 + i))) := by decide +kernel
set_option maxRecDepth 100000 in
theorem mw4_3 : (List.range 50).map (fun i => lw_tbl[(mPl (150 + i)).2.2.2]?) = (List.range 50).map (fun i => some (Cond.initialized (mNm (150 + i)).cls)) := by decide +kernel
set_option maxRecDepth 100000 in
set_option maxHeartbeats 40000000 in
theorem mw1_4 : (List.range 50).map (fun i => lw_tbl[(mPl (200 + i)).1]?) = (List.range 50).map (fun i => some (Cond.code (mNm (200 + i)) (mBy (200 + i)) (mMl (200 + i)) (mRt (200 + i)))) := rfl
set_option maxRecDepth 100000 in
theorem mw2_4 : (List.range 50).map (fun i => lw_tbl[(mPl (200 + i)).2.1]?) = (List.range 50).map (fun i => some (am_w2 (200 + i))) := by decide +kernel
set_option maxRecDepth 100000 in
theorem mw3_4 : (List.range 50).map (fun i => lw_tbl[am_p3 (200 + i)]?) = (List.range 50).map (fun i => some (am_w3 (200 + i))) := by decide +kernel
set_option maxRecDepth 100000 in
theorem mw4_4 : (List.range 50).map (fun i => lw_tbl[(mPl (200 + i)).2.2.2]?) = (List.range 50).map (fun i => some (Cond.initialized (mNm (200 + i)).cls)) := by decide +kernel
set_option maxRecDepth 100000 in
set_option maxHeartbeats 40000000 in
theorem mw1_5 : (List.range 41).map (fun i => lw_tbl[(mPl (250 + i)).1]?) = (List.range 41).map (fun i => some (Cond.code (mNm (250 + i)) (mBy (250 + i)) (mMl (250 + i)) (mRt (250 + i)))) := rfl
set_option maxRecDepth 100000 in
theorem mw2_5 : (List.range 41).map (fun i => lw_tbl[(mPl (250 + i)).2.1]?) = (List.range 41).map (fun i => some (am_w2 (250 + i))) := by decide +kernel
set_option maxRecDepth 100000 in
theorem mw3_5 : (List.range 41).map (fun i => lw_tbl[am_p3 (250 + i)]?) = (List.range 41).map (fun i => some (am_w3 (250 + i))) := by decide +kernel
set_option maxRecDepth 100000 in
theorem mw4_5 : (List.range 41).map (fun i => lw_tbl[(mPl (250 + i)).2.2.2]?) = (List.range 41).map (fun i => some (Cond.initialized (mNm (250 + i)).cls)) := by decide +kernel
set_option maxRecDepth 100000 in
set_option maxHeartbeats 40000000 in
theorem mw1_6 : (List.range 1).map (fun i => lw_tbl[(mPl (291 + i)).1]?) = (List.range 1).map (fun i => some (Cond.code (mNm (291 + i)) (mBy (291 + i)) (mMl (291 + i)) (mRt (291 + i)))) := rfl
theorem mw2_6 : (List.range 1).map (fun i => lw_tbl[(mPl (291 + i)).2.1]?) = (List.range 1).map (fun i => some (am_w2 (291 + i))) := by decide +kernel
theorem mw3_6 : (List.range 1).map (fun i => lw_tbl[am_p3 (291 + i)]?) = (List.range 1).map (fun i => some (am_w3 (291 + i))) := by decide +kernel
theorem mw4_6 : (List.range 1).map (fun i => lw_tbl[(mPl (291 + i)).2.2.2]?) = (List.range 1).map (fun i => some (Cond.initialized (mNm (291 + i)).cls)) := by decide +kernel
set_option maxRecDepth 100000 in
set_option maxHeartbeats 40000000 in
theorem mw1_8 : (List.range 2).map (fun i => lw_tbl[(mPl (294 + i)).1]?) = (List.range 2).map (fun i => some (Cond.code (mNm (294 + i)) (mBy (294 + i)) (mMl (294 + i)) (mRt (294 + i)))) := rfl
theorem mw2_8 : (List.range 2).map (fun i => lw_tbl[(mPl (294 + i)).2.1]?) = (List.range 2).map (fun i => some (am_w2 (294 + i))) := by decide +kernel
theorem mw3_8 : (List.range 2).map (fun i => lw_tbl[am_p3 (294 + i)]?) = (List.range 2).map (fun i => some (am_w3 (294 + i))) := by decide +kernel
theorem mw4_8 : (List.range 2).map (fun i => lw_tbl[(mPl (294 + i)).2.2.2]?) = (List.range 2).map (fun i => some (Cond.initialized (mNm (294 + i)).cls)) := by decide +kernel
set_option maxRecDepth 100000 in
set_option maxHeartbeats 40000000 in
theorem mw1_7 : (List.range 2).map (fun i => lw_tbl[(mPl (304 + i)).1]?) = (List.range 2).map (fun i => some (Cond.code (mNm (304 + i)) (mBy (304 + i)) (mMl (304 + i)) (mRt (304 + i)))) := rfl
theorem mw2_7 : (List.range 2).map (fun i => lw_tbl[(mPl (304 + i)).2.1]?) = (List.range 2).map (fun i => some (am_w2 (304 + i))) := by decide +kernel
theorem mw3_7 : (List.range 2).map (fun i => lw_tbl[am_p3 (304 + i)]?) = (List.range 2).map (fun i => some (am_w3 (304 + i))) := by decide +kernel
theorem mw4_7 : (List.range 2).map (fun i => lw_tbl[(mPl (304 + i)).2.2.2]?) = (List.range 2).map (fun i => some (Cond.initialized (mNm (304 + i)).cls)) := by decide +kernel
def am_mc (k : Nat) : Bool := (match mKd k with
    | 0 => true
    | 1 => true
    | 2 => decide ((mNm k).name = "<init>")
    | _ => false) && decide ((mNm k).cls ≠ "java/lang/invoke/MethodHandle") && decide ((mNm k).cls ≠ "java/lang/invoke/VarHandle") && decide ((parseMethodDescriptor (mNm k).desc).map (fun dd => dd.parameters.length) = some (am_np k)) && decide ((mNm k).cls = am_own (mOc k)) && plainName (mNm k).cls && Nat.ble (mMl k + 19) 64
set_option maxRecDepth 100000 in
theorem mc_0 : ((List.range 50).all fun i => am_mc (0 + i)) = true := by decide +kernel
set_option maxRecDepth 100000 in
theorem mc_1 : ((List.range 50).all fun i => am_mc (50 + i)) = true := by decide +kernel
set_option maxRecDepth 100000 in
theorem mc_2 : ((List.range 50).all fun i => am_mc (100 + i)) = true := by decide +kernel
set_option maxRecDepth 100000 in
theorem mc_3 : ((List.range 50).all fun i => am_mc (150 + i)) = true := by decide +kernel
set_option maxRecDepth 100000 in
theorem mc_4 : ((List.range 50).all fun i => am_mc (200 + i)) = true := by decide +kernel
set_option maxRecDepth 100000 in
theorem mc_5 : ((List.range 41).all fun i => am_mc (250 + i)) = true := by decide +kernel
theorem mc_6 : ((List.range 1).all fun i => am_mc (291 + i)) = true := by decide +kernel
theorem mc_8 : ((List.range 2).all fun i => am_mc (294 + i)) = true := by decide +kernel
theorem mc_7 : ((List.range 2).all fun i => am_mc (304 + i)) = true := by decide +kernel
theorem ch_map {f : Nat → Nat} {g : Nat → Cond} {b n k : Nat} (h : (List.range n).map (fun i => lw_tbl[f (b + i)]?) = (List.range n).map (fun i => some (g (b + i)))) (h1 : b ≤ k) (h2 : k < b + n) : g k ∈ lw_tbl := by
  have e : ((List.range n).map (fun i => lw_tbl[f (b + i)]?))[k - b]? = ((List.range n).map (fun i => some (g (b + i))))[k - b]? := by rw [h]
  rw [List.getElem?_map, List.getElem?_map, List.getElem?_range (by omega)] at e
  simp only [Option.map_some, Option.some.injEq] at e
  rw [show b + (k - b) = k by omega] at e
  exact List.mem_of_getElem? e
theorem ch_all {P : Nat → Bool} {b n k : Nat} (h : ((List.range n).all fun i => P (b + i)) = true) (h1 : b ≤ k) (h2 : k < b + n) : P k = true := by
  have := List.all_eq_true.mp h (k - b) (List.mem_range.mpr (by omega))
  rwa [show b + (k - b) = k by omega] at this
/-- what the tables say of a method -/
def mOk (k : Nat) : Prop := Cond.code (mNm k) (mBy k) (mMl k) (mRt k) ∈ gdW ∧ am_w2 k ∈ gdW ∧ am_w3 k ∈ gdW ∧ Cond.initialized (mNm k).cls ∈ gdW ∧ am_mc k = true
theorem gw2 (k : Nat) : goodWord (am_w2 k) = true := by unfold am_w2; split <;> rfl
theorem gw3 (k : Nat) : goodWord (am_w3 k) = true := by unfold am_w3; split <;> rfl
theorem mok {k : Nat} (hk : k < 292 ∨ (294 ≤ k ∧ k < 296) ∨ (304 ≤ k ∧ k < 306)) : mOk k := by
  have g : ∀ (b n : Nat), (List.range n).map (fun i => lw_tbl[(mPl (b + i)).1]?) = (List.range n).map (fun i => some (Cond.code (mNm (b + i)) (mBy (b + i)) (mMl (b + i)) (mRt (b + i)))) → (List.range n).map (fun i => lw_tbl[(mPl (b + i)).2.1]?) = (List.range n).map (fun i => some (am_w2 (b + i))) → (List.range n).map (fun i => lw_tbl[am_p3 (b + i)]?) = (List.range n).map (fun i => some (am_w3 (b + i))) → (List.range n).map (fun i => lw_tbl[(mPl (b + i)).2.2.2]?) = (List.range n).map (fun i => some (Cond.initialized (mNm (b + i)).cls)) → ((List.range n).all fun i => am_mc (b + i)) = true → b ≤ k → k < b + n → mOk k := by
    intro b n e1 e2 e3 e4 e5 h1 h2
    exact ⟨gd_in (ch_map (f := fun j => (mPl j).1) (g := fun j => Cond.code (mNm j) (mBy j) (mMl j) (mRt j)) e1 h1 h2) rfl, gd_in (ch_map (f := fun j => (mPl j).2.1) (g := am_w2) e2 h1 h2) (gw2 k), gd_in (ch_map (f := am_p3) (g := am_w3) e3 h1 h2) (gw3 k), gd_in (ch_map (f := fun j => (mPl j).2.2.2) (g := fun j => Cond.initialized (mNm j).cls) e4 h1 h2) rfl, ch_all e5 h1 h2⟩
  rcases (show (k < 50) ∨ (50 ≤ k ∧ k < 100) ∨ (100 ≤ k ∧ k < 150) ∨ (150 ≤ k ∧ k < 200) ∨ (200 ≤ k ∧ k < 250) ∨ (250 ≤ k ∧ k < 291) ∨ (291 ≤ k ∧ k < 292) ∨ (294 ≤ k ∧ k < 296) ∨ (304 ≤ k ∧ k < 306) by omega) with h | h | h | h | h | h | h | h | h
  · exact g 0 50 mw1_0 mw2_0 mw3_0 mw4_0 mc_0 (by omega) (by omega)
  · exact g 50 50 mw1_1 mw2_1 mw3_1 mw4_1 mc_1 (by omega) (by omega)
  · exact g 100 50 mw1_2 mw2_2 mw3_2 mw4_2 mc_2 (by omega) (by omega)
  · exact g 150 50 mw1_3 mw2_3 mw3_3 mw4_3 mc_3 (by omega) (by omega)
  · exact g 200 50 mw1_4 mw2_4 mw3_4 mw4_4 mc_4 (by omega) (by omega)
  · exact g 250 41 mw1_5 mw2_5 mw3_5 mw4_5 mc_5 (by omega) (by omega)
  · exact g 291 1 mw1_6 mw2_6 mw3_6 mw4_6 mc_6 (by omega) (by omega)
  · exact g 294 2 mw1_8 mw2_8 mw3_8 mw4_8 mc_8 (by omega) (by omega)
  · exact g 304 2 mw1_7 mw2_7 mw3_7 mw4_7 mc_7 (by omega) (by omega)
