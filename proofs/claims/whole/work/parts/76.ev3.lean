/-! The reference tells what TESTS mean (by program, wip/whole/gen76.py) -/
def tst3 (x : Int) : Prop := x = BRK ∨ x = 0 ∨ x = 1
/-- a method of the reference tells the TEST that f reads -/
def EvW (h : IH) (J : Nat → Nat → Int) (B : Nat → Int) (n c o : Nat) (ord : Int) (run : Int → IH → Option IR) (f : Nat → Nat → RdR) : Prop :=
  ∀ (j l p' l' : Nat) (g : Mng), j ≤ c → f (posT B n j) l = .inr (p', l', g) → ∃ j', (j ≤ j' ∧ j' ≤ c) ∧ posT B n j' = p' ∧ ∀ (I : Nat → Nat → Int) (lv b : Int), EvOk B n c o ord I → (lv = 0 ∨ lv = 1) → (b = 0 ∨ b = 1) → tst3 (g (wsM ord I)) ∧ ∃ v, (v = 0 ∨ v = 1) ∧ (lv = 1 → b = 0 → g (wsM ord I) ≠ BRK → v = g (wsM ord I)) ∧ run lv (st h (evI I ((o + j : Nat) : Int) b) J) = some (oI v, st h (evI I ((o + j' : Nat) : Int) (evB lv b (g (wsM ord I)))) J)
section P76
variable {d n c o : Nat} {h : IH} {J : Nat → Nat → Int} {B : Nat → Int} {ord : Int}
theorem nb0 : (0 : Int) ≠ BRK := by decide
theorem nb1 : (1 : Int) ≠ BRK := by decide
theorem ev_log (t : EvT B n c) {tk : Int} (h1 : tk ≠ 1001) {F : Mng → Mng → Mng} {run : Int → IH → Option IR} {it : Nat → Nat → RdR} (z : EvW h J B n c o ord run it) {L : Int → Nat → Int → IH → Option IR} {LV VV : Int → Int → Int}
    (hLV : ∀ lv v, (lv = 0 ∨ lv = 1) → (LV lv v = 0 ∨ LV lv v = 1)) (hVV : ∀ v w, VV v w = 0 ∨ VV v w = 1) (hF3 : ∀ (f g : Mng) (ws : Nat → Int), tst3 (f ws) → tst3 (g ws) → tst3 (F f g ws))
    (hB : ∀ (f g : Mng) (ws : Nat → Int) (lv b v : Int), (lv = 0 ∨ lv = 1) → (b = 0 ∨ b = 1) → tst3 (f ws) → (lv = 1 → b = 0 → f ws ≠ BRK → v = f ws) → evB (LV lv v) (evB lv b (f ws)) (g ws) = evB lv b (F f g ws))
    (hV : ∀ (f g : Mng) (ws : Nat → Int) (lv b v w : Int), tst3 (f ws) → (lv = 1 → b = 0 → f ws ≠ BRK → v = f ws) → (w = 0 ∨ w = 1) → (LV lv v = 1 → evB lv b (f ws) = 0 → g ws ≠ BRK → w = g ws) → lv = 1 → b = 0 → F f g ws ≠ BRK → VV v w = F f g ws)
    (hst : ∀ (I : Nat → Nat → Int) (lv b : Int) (j f : Nat) (v : Int), EvOk B n c o ord I → j ≤ c → (v = 0 ∨ v = 1) → tkC B n (posT B n j) ≠ tk → L lv (f + 1) v (st h (evI I ((o + j : Nat) : Int) b) J) = some (oI v, st h (evI I ((o + j : Nat) : Int) b) J))
    (hgo : ∀ (I : Nat → Nat → Int) (lv b : Int) (j f j1 : Nat) (v w b1 : Int), EvOk B n c o ord I → j < c → (lv = 0 ∨ lv = 1) → (v = 0 ∨ v = 1) → (w = 0 ∨ w = 1) → tkC B n (posT B n j) = tk → run (LV lv v) (st h (evI I ((o + (j + 1) : Nat) : Int) b) J) = some (oI w, st h (evI I ((o + j1 : Nat) : Int) b1) J) → L lv (f + 1) v (st h (evI I ((o + j : Nat) : Int) b) J) = L lv f (VV v w) (st h (evI I ((o + j1 : Nat) : Int) b1) J)) :
    ∀ (k j l p' l' : Nat) (f g : Mng), n - posT B n j ≤ k → j ≤ c → rwLog B n tk F it k (posT B n j) l f = .inr (p', l', g) → ∃ j', (j ≤ j' ∧ j' ≤ c) ∧ posT B n j' = p' ∧ ∀ (I : Nat → Nat → Int) (lv b : Int), EvOk B n c o ord I → (lv = 0 ∨ lv = 1) → (b = 0 ∨ b = 1) → tst3 (f (wsM ord I)) → tst3 (g (wsM ord I)) ∧ ∀ fu v, k + 1 ≤ fu → (v = 0 ∨ v = 1) → (lv = 1 → b = 0 → f (wsM ord I) ≠ BRK → v = f (wsM ord I)) → ∃ v', (v' = 0 ∨ v' = 1) ∧ (lv = 1 → b = 0 → g (wsM ord I) ≠ BRK → v' = g (wsM ord I)) ∧ L lv fu v (st h (evI I ((o + j : Nat) : Int) (evB lv b (f (wsM ord I)))) J) = some (oI v', st h (evI I ((o + j' : Nat) : Int) (evB lv b (g (wsM ord I)))) J) := by
  intro k
  induction k with
  | zero =>
    intro j l p' l' f g hk hj hr
    have hp := posT_le (B := B) (n := n) j
    have hpn : ¬ (tkC B n (posT B n j) ≠ 1001) := fun q => by
      have := tkE_lt hp q
      omega
    have hc : tkC B n (posT B n j) = 1001 := Decidable.not_not.mp hpn
    have hr2 : (Sum.inr (posT B n j, l, f) : RdR) = .inr (p', l', g) := hr
    cases hr2
    refine ⟨j, ⟨Nat.le_refl _, hj⟩, rfl, fun I lv b e hlv hb hf => ⟨hf, fun fu v hfu hv hvf => ?_⟩⟩
    obtain ⟨fu, rfl⟩ : ∃ q, fu = q + 1 := ⟨fu - 1, by omega⟩
    exact ⟨v, hv, hvf, hst I lv _ j fu v e hj hv (by rw [hc]; exact fun q => h1 q.symm)⟩
  | succ k ih =>
    intro j l p' l' f g hk hj hr
    have hp := posT_le (B := B) (n := n) j
    by_cases c0 : tkC B n (posT B n j) = tk
    · have hc : tkC B n (posT B n j) ≠ 1001 := fun q => h1 (by rw [← c0, q])
      have hpe := tkE_lt hp hc
      have hj1 := (t.end hj).mpr hc
      have e : rwLog B n tk F it (k + 1) (posT B n j) l f = (match it (posT B n (j + 1)) l with
        | .inl q => .inl q
        | .inr (p', l', g) => rwLog B n tk F it k p' l' (F f g)) := if_pos c0
      rw [e] at hr
      cases e1 : it (posT B n (j + 1)) l with
      | inl q =>
        rw [e1] at hr
        cases hr
      | inr x =>
        obtain ⟨p1, l1, f1⟩ := x
        rw [e1] at hr
        obtain ⟨j1, a1, a2, a3⟩ := z (j + 1) l p1 l1 f1 (by omega) e1
        subst a2
        have hmono : posT B n (j + 1) ≤ posT B n j1 := by
          have := posT_mono (B := B) (n := n) (i := j + 1) (j1 - (j + 1))
          rwa [show j + 1 + (j1 - (j + 1)) = j1 by omega] at this
        have he : posT B n (j + 1) = tkE B n (posT B n j) := rfl
        obtain ⟨j', b1, b2, b3⟩ := ih j1 l1 p' l' (F f f1) g (by omega) a1.2 hr
        refine ⟨j', ⟨by omega, b1.2⟩, b2, fun I lv b e hlv hb hf => ?_⟩
        have h1' : tst3 (f1 (wsM ord I)) := (a3 I lv b e hlv hb).1
        obtain ⟨k1, k2⟩ := b3 I lv b e hlv hb (hF3 f f1 _ hf h1')
        refine ⟨k1, fun fu v hfu hv hvf => ?_⟩
        obtain ⟨fu, rfl⟩ : ∃ q, fu = q + 1 := ⟨fu - 1, by omega⟩
        obtain ⟨-, w, g1, g2, g3⟩ := a3 I (LV lv v) (evB lv b (f (wsM ord I))) e (hLV lv v hlv) (evB_01 hb)
        rw [hB f f1 _ lv b v hlv hb hf hvf] at g3
        rw [hgo I lv _ j fu j1 v w _ e hj1 hlv hv g1 c0 g3]
        exact k2 fu (VV v w) (by omega) (hVV v w) (hV f f1 _ lv b v w hf hvf g1 g2)
    · have e : rwLog B n tk F it (k + 1) (posT B n j) l f = .inr (posT B n j, l, f) := if_neg c0
      rw [e] at hr
      cases hr
      refine ⟨j, ⟨Nat.le_refl _, hj⟩, rfl, fun I lv b e hlv hb hf => ⟨hf, fun fu v hfu hv hvf => ?_⟩⟩
      obtain ⟨fu, rfl⟩ : ∃ q, fu = q + 1 := ⟨fu - 1, by omega⟩
      exact ⟨v, hv, hvf, hst I lv _ j fu v e hj hv c0⟩
theorem ev_logs (t : EvT B n c) {tk : Int} (h1 : tk ≠ 1001) {F : Mng → Mng → Mng} {run top : Int → IH → Option IR} {it : Nat → Nat → RdR} (z : EvW h J B n c o ord run it) {L : Int → Nat → Int → IH → Option IR} {LV VV : Int → Int → Int}
    (hLV : ∀ lv v, (lv = 0 ∨ lv = 1) → (LV lv v = 0 ∨ LV lv v = 1)) (hVV : ∀ v w, VV v w = 0 ∨ VV v w = 1) (hF3 : ∀ (f g : Mng) (ws : Nat → Int), tst3 (f ws) → tst3 (g ws) → tst3 (F f g ws))
    (hB : ∀ (f g : Mng) (ws : Nat → Int) (lv b v : Int), (lv = 0 ∨ lv = 1) → (b = 0 ∨ b = 1) → tst3 (f ws) → (lv = 1 → b = 0 → f ws ≠ BRK → v = f ws) → evB (LV lv v) (evB lv b (f ws)) (g ws) = evB lv b (F f g ws))
    (hV : ∀ (f g : Mng) (ws : Nat → Int) (lv b v w : Int), tst3 (f ws) → (lv = 1 → b = 0 → f ws ≠ BRK → v = f ws) → (w = 0 ∨ w = 1) → (LV lv v = 1 → evB lv b (f ws) = 0 → g ws ≠ BRK → w = g ws) → lv = 1 → b = 0 → F f g ws ≠ BRK → VV v w = F f g ws)
    (hst : ∀ (I : Nat → Nat → Int) (lv b : Int) (j f : Nat) (v : Int), EvOk B n c o ord I → j ≤ c → (v = 0 ∨ v = 1) → tkC B n (posT B n j) ≠ tk → L lv (f + 1) v (st h (evI I ((o + j : Nat) : Int) b) J) = some (oI v, st h (evI I ((o + j : Nat) : Int) b) J))
    (hgo : ∀ (I : Nat → Nat → Int) (lv b : Int) (j f j1 : Nat) (v w b1 : Int), EvOk B n c o ord I → j < c → (lv = 0 ∨ lv = 1) → (v = 0 ∨ v = 1) → (w = 0 ∨ w = 1) → tkC B n (posT B n j) = tk → run (LV lv v) (st h (evI I ((o + (j + 1) : Nat) : Int) b) J) = some (oI w, st h (evI I ((o + j1 : Nat) : Int) b1) J) → L lv (f + 1) v (st h (evI I ((o + j : Nat) : Int) b) J) = L lv f (VV v w) (st h (evI I ((o + j1 : Nat) : Int) b1) J))
    (htop : ∀ (I : Nat → Nat → Int) (lv : Int), top lv (st h I J) = kI (run lv (st h I J)) fun x g => L lv 999999 x g) : EvW h J B n c o ord top (rwLogs B n tk F it) := by
  intro j l p' l' g hj hr
  unfold rwLogs at hr
  cases e1 : it (posT B n j) l with
  | inl q =>
    rw [e1] at hr
    cases hr
  | inr x =>
    obtain ⟨p1, l1, f1⟩ := x
    rw [e1] at hr
    obtain ⟨j1, a1, a2, a3⟩ := z j l p1 l1 f1 hj e1
    subst a2
    obtain ⟨j', b1, b2, b3⟩ := ev_log t h1 z hLV hVV hF3 hB hV hst hgo (n - posT B n j1) j1 l1 p' l' f1 g (Nat.le_refl _) a1.2 hr
    refine ⟨j', ⟨by omega, b1.2⟩, b2, fun I lv b e hlv hb => ?_⟩
    obtain ⟨g1, v, g2, g3, g4⟩ := a3 I lv b e hlv hb
    obtain ⟨k1, k2⟩ := b3 I lv b e hlv hb g1
    have hn := t.2.1
    refine ⟨k1, ?_⟩
    obtain ⟨v', m1, m2, m3⟩ := k2 999999 v (by omega) g2 g3
    refine ⟨v', m1, m2, ?_⟩
    rw [htop, g4, kI_o]
    exact m3
def lvA (lv v : Int) : Int := if lv = 0 then 0 else if v = 0 then 0 else 1
def lvO (lv v : Int) : Int := if lv = 0 then 0 else if v = 0 then 1 else 0
def vvA (v w : Int) : Int := if v = 0 then 0 else if w = 0 then 0 else 1
def vvO (v w : Int) : Int := if v = 0 then (if w = 0 then 0 else 1) else 1
theorem con3 (f g : Mng) (ws : Nat → Int) (hf : tst3 (f ws)) (hg : tst3 (g ws)) : tst3 (conF f g ws) := by
  unfold conF
  split
  · exact Or.inl rfl
  · split
    · exact Or.inr (Or.inl rfl)
    · exact hg
theorem dis3 (f g : Mng) (ws : Nat → Int) (hf : tst3 (f ws)) (hg : tst3 (g ws)) : tst3 (disF f g ws) := by
  unfold disF
  split
  · exact Or.inl rfl
  · split
    · exact Or.inr (Or.inr rfl)
    · exact hg
theorem conB (f g : Mng) (ws : Nat → Int) (lv b v : Int) (hlv : lv = 0 ∨ lv = 1) (hb : b = 0 ∨ b = 1) (hf : tst3 (f ws)) (hv : lv = 1 → b = 0 → f ws ≠ BRK → v = f ws) : evB (lvA lv v) (evB lv b (f ws)) (g ws) = evB lv b (conF f g ws) := by
  rcases hlv with rfl | rfl
  · have e : ∀ b x, evB 0 b x = b := fun b x => if_neg (fun z => absurd z.1 (by decide))
    have e2 : lvA 0 v = 0 := if_pos rfl
    rw [e2, e, e, e]
  · rcases hb with rfl | rfl
    · rcases hf with z | z | z
      · have e1 : evB 1 0 (f ws) = 1 := if_pos ⟨rfl, z⟩
        have e2 : conF f g ws = BRK := if_pos z
        have e3 : evB 1 0 BRK = 1 := if_pos ⟨rfl, rfl⟩
        rw [e1, e2, e3]
        unfold evB
        split <;> rfl
      · have hv := hv rfl rfl (by rw [z]; decide)
        have e1 : evB 1 0 (f ws) = 0 := if_neg (fun y => by have := y.2; rw [z] at this; exact nb0 this)
        have e2 : conF f g ws = 0 := by unfold conF; rw [if_neg (by rw [z]; decide), if_pos z]
        have e3 : lvA 1 v = 0 := by unfold lvA; rw [if_neg (by decide), if_pos (by rw [hv, z])]
        rw [e1, e2, e3]
        unfold evB
        rw [if_neg (fun y => absurd y.1 (by decide)), if_neg (fun y => nb0 y.2)]
      · have hv := hv rfl rfl (by rw [z]; decide)
        have e1 : evB 1 0 (f ws) = 0 := if_neg (fun y => by have := y.2; rw [z] at this; exact nb1 this)
        have e2 : conF f g ws = g ws := by unfold conF; rw [if_neg (by rw [z]; decide), if_neg (by rw [z]; decide)]
        have e3 : lvA 1 v = 1 := by unfold lvA; rw [if_neg (by decide), if_neg (by rw [hv, z]; decide)]
        rw [e1, e2, e3]
    · have e1 : ∀ l x, evB l 1 x = 1 := fun l x => by unfold evB; split <;> rfl
      rw [e1, e1, e1]
theorem disB (f g : Mng) (ws : Nat → Int) (lv b v : Int) (hlv : lv = 0 ∨ lv = 1) (hb : b = 0 ∨ b = 1) (hf : tst3 (f ws)) (hv : lv = 1 → b = 0 → f ws ≠ BRK → v = f ws) : evB (lvO lv v) (evB lv b (f ws)) (g ws) = evB lv b (disF f g ws) := by
  rcases hlv with rfl | rfl
  · have e : ∀ b x, evB 0 b x = b := fun b x => if_neg (fun z => absurd z.1 (by decide))
    have e2 : lvO 0 v = 0 := if_pos rfl
    rw [e2, e, e, e]
  · rcases hb with rfl | rfl
    · rcases hf with z | z | z
      · have e1 : evB 1 0 (f ws) = 1 := if_pos ⟨rfl, z⟩
        have e2 : disF f g ws = BRK := if_pos z
        have e3 : evB 1 0 BRK = 1 := if_pos ⟨rfl, rfl⟩
        rw [e1, e2, e3]
        unfold evB
        split <;> rfl
      · have hv := hv rfl rfl (by rw [z]; decide)
        have e1 : evB 1 0 (f ws) = 0 := if_neg (fun y => by have := y.2; rw [z] at this; exact nb0 this)
        have e2 : disF f g ws = g ws := by unfold disF; rw [if_neg (by rw [z]; decide), if_neg (by rw [z]; decide)]
        have e3 : lvO 1 v = 1 := by unfold lvO; rw [if_neg (by decide), if_pos (by rw [hv, z])]
        rw [e1, e2, e3]
      · have hv := hv rfl rfl (by rw [z]; decide)
        have e1 : evB 1 0 (f ws) = 0 := if_neg (fun y => by have := y.2; rw [z] at this; exact nb1 this)
        have e2 : disF f g ws = 1 := by unfold disF; rw [if_neg (by rw [z]; decide), if_pos z]
        have e3 : lvO 1 v = 0 := by unfold lvO; rw [if_neg (by decide), if_neg (by rw [hv, z]; decide)]
        rw [e1, e2, e3]
        unfold evB
        rw [if_neg (fun y => absurd y.1 (by decide)), if_neg (fun y => nb1 y.2)]
    · have e1 : ∀ l x, evB l 1 x = 1 := fun l x => by unfold evB; split <;> rfl
      rw [e1, e1, e1]
theorem conV (f g : Mng) (ws : Nat → Int) (lv b v w : Int) (hf : tst3 (f ws)) (hv : lv = 1 → b = 0 → f ws ≠ BRK → v = f ws) (hw : w = 0 ∨ w = 1) (hg : lvA lv v = 1 → evB lv b (f ws) = 0 → g ws ≠ BRK → w = g ws) (h1 : lv = 1) (h0 : b = 0) (hn : conF f g ws ≠ BRK) : vvA v w = conF f g ws := by
  subst h1
  subst h0
  rcases hf with z | z | z
  · exact absurd (if_pos z) hn
  · have hv := hv rfl rfl (by rw [z]; decide)
    have e2 : conF f g ws = 0 := by unfold conF; rw [if_neg (by rw [z]; decide), if_pos z]
    rw [e2]
    exact if_pos (by rw [hv, z])
  · have hv := hv rfl rfl (by rw [z]; decide)
    have e1 : evB 1 0 (f ws) = 0 := if_neg (fun y => by have := y.2; rw [z] at this; exact nb1 this)
    have e2 : conF f g ws = g ws := by unfold conF; rw [if_neg (by rw [z]; decide), if_neg (by rw [z]; decide)]
    have e3 : lvA 1 v = 1 := by unfold lvA; rw [if_neg (by decide), if_neg (by rw [hv, z]; decide)]
    rw [e2] at hn ⊢
    rw [← hg e3 e1 hn]
    unfold vvA
    rw [if_neg (by rw [hv, z]; decide)]
    rcases hw with y | y <;> rw [y] <;> rfl
theorem disV (f g : Mng) (ws : Nat → Int) (lv b v w : Int) (hf : tst3 (f ws)) (hv : lv = 1 → b = 0 → f ws ≠ BRK → v = f ws) (hw : w = 0 ∨ w = 1) (hg : lvO lv v = 1 → evB lv b (f ws) = 0 → g ws ≠ BRK → w = g ws) (h1 : lv = 1) (h0 : b = 0) (hn : disF f g ws ≠ BRK) : vvO v w = disF f g ws := by
  subst h1
  subst h0
  rcases hf with z | z | z
  · exact absurd (if_pos z) hn
  · have hv := hv rfl rfl (by rw [z]; decide)
    have e1 : evB 1 0 (f ws) = 0 := if_neg (fun y => by have := y.2; rw [z] at this; exact nb0 this)
    have e2 : disF f g ws = g ws := by unfold disF; rw [if_neg (by rw [z]; decide), if_neg (by rw [z]; decide)]
    have e3 : lvO 1 v = 1 := by unfold lvO; rw [if_neg (by decide), if_pos (by rw [hv, z])]
    rw [e2] at hn ⊢
    rw [← hg e3 e1 hn]
    unfold vvO
    rw [if_pos (by rw [hv, z])]
    rcases hw with y | y <;> rw [y] <;> rfl
  · have hv := hv rfl rfl (by rw [z]; decide)
    have e2 : disF f g ws = 1 := by unfold disF; rw [if_neg (by rw [z]; decide), if_pos z]
    rw [e2]
    exact if_neg (by rw [hv, z]; decide)
theorem tr_p76 (t : EvT B n c) {p : Nat} {m : Int} {tk : Nat} (hm : (m, tk) ∈ trPs) : cdM B n p = m ↔ tkC B n p = tk := tr_p t.1 hm
theorem ev_both (s : ShM h 88) (t : EvT B n c) {it : Nat → Nat → RdR} (z : EvW h J B n c o ord (fun lv g => rn (d + 8) 216 [iR (some 88), iI lv] g) it) : EvW h J B n c o ord (fun lv g => rn (d + 9) 215 [iR (some 88), iI lv] g) (rwLogs B n 281 conF it) := by
  refine ev_logs t (by decide) z (L := fun lv fu v g => lp (d + 8) 215 fu 6 [some (iR (some 88)), some (iI lv), some (iI v), none] [] g) (LV := lvA) (VV := vvA) ?_ ?_ con3 conB conV ?_ ?_ ?_
  · intro lv v _
    unfold lvA
    (repeat' split) <;> omega
  · intro v w
    unfold vvA
    (repeat' split) <;> omega
  · intro I lv b j f v e hj hv hc
    try dsimp only
    rw [e_M_bothOf_6, yck (bT_88 s), s_passes0 (d := d + 6) s e hj, if_neg (fun y => hc ((tr_p76 t (m := 6) (tk := 281) (by simp [trPs])).mp y)), kI_o, if_pos rfl, xZ_ok hv]
  · intro I lv b j f j1 v w b1 e hj hlv hv hw hc hr
    try dsimp only at hr ⊢
    rw [e_M_bothOf_6, yck (bT_88 s), s_passes0 (d := d + 6) s e (by omega), if_pos ((tr_p76 t (m := 6) (tk := 281) (by simp [trPs])).mpr hc), kI_o, if_neg (by decide)]
    unfold lvA at hr
    unfold vvA
    by_cases c1 : lv = 0
    · rw [if_pos c1] at hr
      rw [if_pos c1, yck (bT_88 s), hr, kI_o]
      by_cases c2 : v = 0
      · rw [if_pos c2, if_pos c2]
      · rw [if_neg c2, if_neg c2]
        by_cases c3 : w = 0
        · rw [if_pos c3, if_pos c3]
        · rw [if_neg c3, if_neg c3]
    · rw [if_neg c1] at hr
      rw [if_neg c1]
      by_cases c2 : v = 0
      · rw [if_pos c2] at hr
        rw [if_pos c2, yck (bT_88 s), hr, kI_o, if_pos c2, if_pos c2]
      · rw [if_neg c2] at hr
        rw [if_neg c2, yck (bT_88 s), hr, kI_o, if_neg c2, if_neg c2]
        by_cases c3 : w = 0
        · rw [if_pos c3, if_pos c3]
        · rw [if_neg c3, if_neg c3]
  · intro I lv
    try dsimp only
    rw [r_M_bothOf, e_M_bothOf, yck (bT_88 s)]
theorem ev_test (s : ShM h 88) (t : EvT B n c) {it : Nat → Nat → RdR} (z : EvW h J B n c o ord (fun lv g => rn (d + 9) 215 [iR (some 88), iI lv] g) it) : EvW h J B n c o ord (fun lv g => rn (d + 10) 214 [iR (some 88), iI lv] g) (rwLogs B n 280 disF it) := by
  refine ev_logs t (by decide) z (L := fun lv fu v g => lp (d + 9) 214 fu 6 [some (iR (some 88)), some (iI lv), some (iI v), none] [] g) (LV := lvO) (VV := vvO) ?_ ?_ dis3 disB disV ?_ ?_ ?_
  · intro lv v _
    unfold lvO
    (repeat' split) <;> omega
  · intro v w
    unfold vvO
    (repeat' split) <;> omega
  · intro I lv b j f v e hj hv hc
    try dsimp only
    rw [e_M_testOf_6, yck (bT_88 s), s_passes0 (d := d + 7) s e hj, if_neg (fun y => hc ((tr_p76 t (m := 5) (tk := 280) (by simp [trPs])).mp y)), kI_o, if_pos rfl, xZ_ok hv]
  · intro I lv b j f j1 v w b1 e hj hlv hv hw hc hr
    try dsimp only at hr ⊢
    rw [e_M_testOf_6, yck (bT_88 s), s_passes0 (d := d + 7) s e (by omega), if_pos ((tr_p76 t (m := 5) (tk := 280) (by simp [trPs])).mpr hc), kI_o, if_neg (by decide)]
    unfold lvO at hr
    unfold vvO
    by_cases c1 : lv = 0
    · rw [if_pos c1] at hr
      rw [if_pos c1, yck (bT_88 s), hr, kI_o]
      by_cases c2 : v = 0
      · rw [if_pos c2, if_pos c2]
        by_cases c3 : w = 0
        · rw [if_pos c3, if_pos c3]
        · rw [if_neg c3, if_neg c3]
      · rw [if_neg c2, if_neg c2]
    · rw [if_neg c1] at hr
      rw [if_neg c1]
      by_cases c2 : v = 0
      · rw [if_pos c2] at hr
        rw [if_pos c2, yck (bT_88 s), hr, kI_o, if_pos c2, if_pos c2]
        by_cases c3 : w = 0
        · rw [if_pos c3, if_pos c3]
        · rw [if_neg c3, if_neg c3]
      · rw [if_neg c2] at hr
        rw [if_neg c2, yck (bT_88 s), hr, kI_o, if_neg c2, if_neg c2]
  · intro I lv
    try dsimp only
    rw [r_M_testOf, e_M_testOf, yck (bT_88 s)]
end P76
