/-! THE LAW's frame: its heap, what its calls leave, what a call's pair must be -/
abbrev K_law (nm : String) (hh : List (Nat × Nat × Nat × Nat)) : gK := (7, ⟨"GoldSheetsLaw", nm, "([I)Z"⟩, code, 9, some .boolean, hh)
/-- the reference's cells from place b on -/
abbrev cMb (b : Nat) (M : gMo) : gH := [cO 6 [.int (mTh M), .ref (b + 1), .ref (b + 2), .int (nI (mN M)), .ref (b + 3), .ref (b + 4), .int (nI (mTy M)), .ref (b + 5), .int (nI (mSt M)), .ref (b + 6), .int (nI (mPm M)), .int (nI (mSpt M)), .int (mWr M), .long (mHs M)], cI 103 (zD (mD M)), cI 618 (svF (mDs M)), cI 103 (zD (mSp M)), cI 60 (mBf M), cI 10 (oF (mOd M)), cI 39 (mPa M)]
abbrev cLh (S : gGS) (M : gMo) (o : Nat → Int64) : gH := cGs S ++ (cMb 89 M ++ [cJ 1 o])
theorem nd_L1 : va_nd (gps 0 89 96 1) = true := by decide +kernel
theorem nd_L2 : va_nd (gps 89 7 0 0) = true := by decide +kernel
set_option maxRecDepth 20000 in
theorem cutL1 (S : gGS) (M : gMo) (o : Nat → Int64) (hr : sR S < 6) : gCut (cLh S M o) (cW S o) (gps 0 89 96 1) := by
  obtain ⟨D, Tr, r, n, Ds, T, db⟩ := S
  have hr6 : r < 6 := hr
  refine gCut_seg (Nat.le_of_ble_eq_true rfl) (Nat.le_of_ble_eq_true rfl) ?_ nd_L1
  rcases (show r = 0 ∨ r = 1 ∨ r = 2 ∨ r = 3 ∨ r = 4 ∨ r = 5 by omega) with rfl | rfl | rfl | rfl | rfl | rfl <;> rfl
set_option maxRecDepth 20000 in
theorem mrgL1 (S S' : gGS) (M : gMo) (o o' : Nat → Int64) (hr : sR S' < 6) : gseg2 (cLh S M o) 0 89 96 1 ((cW S' o').map (gre (gren (gps 0 89 96 1) (cLh S M o).length))) = cLh S' M o' := by
  obtain ⟨D, Tr, r, n, Ds, T, db⟩ := S'
  have hr6 : r < 6 := hr
  rcases (show r = 0 ∨ r = 1 ∨ r = 2 ∨ r = 3 ∨ r = 4 ∨ r = 5 by omega) with rfl | rfl | rfl | rfl | rfl | rfl <;> rfl
set_option maxRecDepth 20000 in
theorem cutL2 (S : gGS) (M : gMo) (o : Nat → Int64) : gCut (cLh S M o) (cMo M) (gps 89 7 0 0) := gCut_seg (Nat.le_of_ble_eq_true rfl) (Nat.le_of_ble_eq_true rfl) rfl nd_L2
set_option maxRecDepth 20000 in
theorem mrgL2 (S : gGS) (M M' : gMo) (o : Nat → Int64) : gseg2 (cLh S M o) 89 7 0 0 ((cMo M').map (gre (gren (gps 89 7 0 0) (cLh S M o).length))) = cLh S M' o := rfl
set_option maxRecDepth 20000 in
theorem cutL3 (S : gGS) (M : gMo) (o : Nat → Int64) (hr : sR S < 6) : gCut (cLh S M o) (cGs S) (gps 0 89 0 0) := by
  obtain ⟨D, Tr, r, n, Ds, T, db⟩ := S
  have hr6 : r < 6 := hr
  refine gCut_seg (Nat.le_of_ble_eq_true rfl) (Nat.le_of_ble_eq_true rfl) ?_ nd89
  rcases (show r = 0 ∨ r = 1 ∨ r = 2 ∨ r = 3 ∨ r = 4 ∨ r = 5 by omega) with rfl | rfl | rfl | rfl | rfl | rfl <;> rfl
set_option maxRecDepth 20000 in
theorem mrgL3 (S S' : gGS) (M : gMo) (o : Nat → Int64) (hr : sR S' < 6) : gseg2 (cLh S M o) 0 89 0 0 ((cGs S').map (gre (gren (gps 0 89 0 0) (cLh S M o).length))) = cLh S' M o := by
  obtain ⟨D, Tr, r, n, Ds, T, db⟩ := S'
  have hr6 : r < 6 := hr
  rcases (show r = 0 ∨ r = 1 ∨ r = 2 ∨ r = 3 ∨ r = 4 ∨ r = 5 by omega) with rfl | rfl | rfl | rfl | rfl | rfl <;> rfl
section GL
variable {K : gK} {sc : Nat × (Nat → Int32)} {R R' : Room} {n0 : Nat} {E : gO → gH → Prop} {cs ss pc : Nat} {l : gL} {st : List Value}
/-- behind a call of the reference -/
theorem gAft_L {V : Option Value} {S : gGS} {M0 M : gMo} {o : Nat → Int64} {st' : List Value} {pc' cs' ss' : Nat} (hV : V.map (gmv (gren (gps 89 7 0 0) 97)) = V) (hw : V.toList.all (gwv 7) = true) (hs : V.toList ++ st = st') (hpc : pc + 3 = pc') (hcs : cs + R'.cells = cs') (hss : ss + R'.slots = ss') (k : ∀ (od : Nat → Nat) (s1 : Nat) (sp : gDom), odOK od → gW K sc R n0 E cs' ss' pc' l st' (cLh S (wSp (wSt (wOd M od) s1) sp) o)) : gAft K sc R R' n0 E (gXs V M) cs ss pc l st (cLh S M0 o) (cMo M0) (gps 89 7 0 0) := by
  subst hs; subst hpc; subst hcs; subst hss
  refine ⟨fun w x hx => ?_, fun X x hx => ?_⟩
  · obtain ⟨od, s1, sp, ho, h1, rfl⟩ := hx
    cases h1
    refine ⟨rfl, rfl, fun x hx => ?_, ?_⟩
    · subst hx
      exact List.all_eq_true.mp hw x (by simp)
    · have h2 := k od s1 sp ho
      rw [← hV] at h2
      have he := (gsets_seg2 (h := cLh S M0 o) (a := 89) (k := 7) (b := 0) (m := 0) (es := (cMo (wSp (wSt (wOd M od) s1) sp)).map (gre (gren (gps 89 7 0 0) (cLh S M0 o).length))) rfl (Nat.le_of_ble_eq_true rfl) (Nat.le_of_ble_eq_true rfl)).trans (mrgL2 S M0 _ o)
      rw [he]
      exact h2
  · obtain ⟨od, s1, sp, ho, h1, rfl⟩ := hx
    cases h1
end GL
/-- a room that a callee of the law may have -/
abbrev rmL (R : Room) : Prop := R.frames ≤ 10 ∧ R.locals ≤ 420 ∧ R.cells = 0 ∧ R.slots = 0
/-- a call on both sides: the class by its wrapper, the reference; both answer alike, and stand alike behind it -/
def prP (Rel : gGS → gMo → Prop) (S : gGS) (M : gMo) (o : Nat → Int64) (KW KM : gK) (as : List Value) : Prop :=
  ∃ (S' : gGS) (M' : gMo) (o' : Nat → Int64) (k b : Int32) (R2 : Room), rmL R2 ∧ sR S' < 6 ∧ gM KW { frames := 9, locals := 200, cells := 1, slots := 6 } (.ref 0 :: (as ++ [.ref 89])) (cW S o) (gD (.inl (some (.int k))) (cW S' o')) ∧ gM KM R2 (.ref 0 :: as) (cMo M) (gXs (some (.int b)) M') ∧ mTh M' = k ∧ (k = 0 → o' 0 = b.toInt64) ∧ ∀ od st sp, odOK od → Rel S' (wSp (wSt (wOd M' od) st) sp)
/-- a call that answers a value without a wrapper -/
def prV (Rel : gGS → gMo → Prop) (S : gGS) (M : gMo) (KX KM : gK) (V : Value → Prop) : Prop :=
  ∃ (S' : gGS) (M' : gMo) (v : Value) (R1 R2 : Room), V v ∧ rmL R1 ∧ rmL R2 ∧ sR S' < 6 ∧ gM KX R1 [.ref 0] (cGs S) (gD (.inl (some v)) (cGs S')) ∧ gM KM R2 [.ref 0] (cMo M) (gXs (some v) M') ∧ ∀ od st sp, odOK od → Rel S' (wSp (wSt (wOd M' od) st) sp)
theorem lg_cmp_self (x : Int64) : lg_cmp x x = 0 := by
  unfold lg_cmp
  simp
theorem law_gt {L i : Nat} (hL : L ≤ 2048) (hi : i ≤ 4096) : nI L - 4 < nI i ↔ L < i + 4 := by
  rw [Int32.lt_iff_toInt_lt, show (4 : Int32) = nI 4 from rfl, pk_sub_toInt (by omega) (by omega), nI_toInt (by omega)]
  omega
