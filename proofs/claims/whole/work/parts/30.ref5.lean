/-! THE REFERENCE's methods: a day, days. Printed by wip/whole/meths17.py -/
/-- mixed up trays are sorted, as long as a setter is left -/
def r1 (r : Int32) : Nat → Nat → (Nat → Int32) → Int32 → Nat → (Nat → Int32) × Int32 × Nat
  | 0, _, f, so, s => (f, so, s)
  | n + 1, i, f, so, s => if s = 0 then r1 r n (i + 1) f so s else if tn f i ≤ 1 then r1 r n (i + 1) f so s else r1 r n (i + 1) (srR i (moc f i 3) r f 4) (so + 1) (s - 1)
theorem r1_le {r : Int32} : ∀ (n i : Nat) (f : Nat → Int32) (so : Int32) (s : Nat), (r1 r n i f so s).2.2 ≤ s
  | 0, _, _, _, s => Nat.le_refl s
  | n + 1, i, f, so, s => by
    unfold r1
    by_cases h : s = 0
    · rw [if_pos h]
      exact r1_le n (i + 1) f so s
    · rw [if_neg h]
      by_cases h2 : tn f i ≤ 1
      · rw [if_pos h2]
        exact r1_le n (i + 1) f so s
      · rw [if_neg h2]
        exact Nat.le_trans (r1_le n (i + 1) _ _ (s - 1)) (Nat.sub_le s 1)
/-- the sections are gone through in the order od -/
def w2 (od : Nat → Nat) : Nat → Nat → gDom → Int32 → Nat → gDom × Int32 × Nat
  | 0, _, D, v, s => (D, v, s)
  | n + 1, k, D, v, s => w2 od n (k + 1) (wkR (od k) s D 0).1 (v + (wkR (od k) s D 0).2.1) (wkR (od k) s D 0).2.2
theorem w2_ok {od : Nat → Nat} : ∀ (n k : Nat) (D : gDom) (v : Int32) (s : Nat), rOK D → (∀ j, j < dSz D → od j < dSz D) → k + n ≤ dSz D → rOK (w2 od n k D v s).1 ∧ dSz (w2 od n k D v s).1 = dSz D ∧ (w2 od n k D v s).2.2 ≤ s ∧ dSt (w2 od n k D v s).1 = dSt D
  | 0, k, D, v, s, h, _, _ => ⟨h, rfl, Nat.le_refl _, rfl⟩
  | n + 1, k, D, v, s, h, ho, hk => by
    obtain ⟨a, b, c, d⟩ := wkR_ok (s := od k) s D 0 h (ho k (by omega))
    obtain ⟨e1, e2, e3, e4⟩ := w2_ok n (k + 1) (wkR (od k) s D 0).1 (v + (wkR (od k) s D 0).2.1) (wkR (od k) s D 0).2.2 a (by rw [b]; exact ho) (by rw [b]; omega)
    exact ⟨e1, e2.trans b, Nat.le_trans e3 c, e4.trans d⟩
/-- the order's first entries are places of sections -/
theorem lo_lt {k : Nat} {g : Nat → Int32} {s : Nat} : ∀ (a : Nat) (od : Nat → Nat), a ≤ s → (∀ j, j < s → od j < s) → ∀ j, j ≤ s → loI k g s a od j < s + 1 ∨ (a < j ∧ loI k g s a od j = od j)
  | 0, od, _, ho, j, hj => by
    unfold loI updN
    by_cases h : j = 0
    · rw [if_pos h]
      exact Or.inl (by omega)
    · rw [if_neg h]
      exact Or.inr ⟨by omega, rfl⟩
  | a + 1, od, ha, ho, j, hj => by
    unfold loI
    by_cases hc : bI (cb k g s (od a)) = 0
    · rw [if_pos hc]
      unfold updN
      by_cases h : j = a + 1
      · rw [if_pos h]
        exact Or.inl (by omega)
      · rw [if_neg h]
        by_cases h2 : j < a + 1
        · exact Or.inl (by have := ho j (by omega); omega)
        · exact Or.inr ⟨by omega, rfl⟩
    · rw [if_neg hc]
      by_cases h2 : j ≤ a
      · rcases lo_lt a (updN od (a + 1) (od a)) (by omega) (fun q hq => by
          unfold updN
          split
          · exact ho a (by omega)
          · exact ho q hq) j hj with h | ⟨h, _⟩
        · exact Or.inl h
        · omega
      · rcases lo_lt a (updN od (a + 1) (od a)) (by omega) (fun q hq => by
          unfold updN
          split
          · exact ho a (by omega)
          · exact ho q hq) j hj with h | ⟨h, h3⟩
        · exact Or.inl h
        · rw [h3]
          unfold updN
          by_cases h4 : j = a + 1
          · rw [if_pos h4]
            exact Or.inl (by have := ho a (by omega); omega)
          · rw [if_neg h4]
            exact Or.inr ⟨by omega, rfl⟩
theorem loR_lt {k : Nat} {g : Nat → Int32} : ∀ (s : Nat) (od : Nat → Nat) (j : Nat), j < s → loR k g s od j < s
  | 0, _, _, h => absurd h (Nat.not_lt_zero _)
  | s + 1, od, j, h => by
    rcases lo_lt (k := k) (g := g) (s := s) s (loR k g s od) (Nat.le_refl s) (fun q hq => loR_lt s od q hq) j (by omega) with h1 | ⟨h1, _⟩
    · exact h1
    · omega
def rwA (D : gDom) : (Nat → Int32) × Int32 × Nat := r1 (dSt D 1) 6 0 (dTr D) (dSo D) (tnx (dSt D 3))
def rwB (D : gDom) : gDom := setTS D (rwA D).1 (rwA D).2.1
def rwO (D : gDom) (od : Nat → Nat) : Nat → Nat := loR (keyOf (dSt D 2)) (dG D) (dSz D) od
def rwC (D : gDom) (od : Nat → Nat) : gDom × Int32 × Nat := w2 (rwO D od) (dSz D) 0 (rwB D) 0 (rwA D).2.2
def dayD (D : gDom) : gDom := (dTr D, dG D, dSz D, dC D, dSt D, dSh D, dCu D, dLa D, dSw D, dDy D + 1, dDn D, dLt D, dLd D, dSo D)
/-- a day of the reference -/
def rwD (D : gDom) (od : Nat → Nat) : gDom := dayD (edR (dSz (rwC D od).1) (rwC D od).1)
theorem rOK_B {D : gDom} (h : rOK D) : rOK (rwB D) := h
theorem rOK_C {D : gDom} (od : Nat → Nat) (h : rOK D) : rOK (rwC D od).1 ∧ dSz (rwC D od).1 = dSz D ∧ (rwC D od).2.2 ≤ (rwA D).2.2 ∧ dSt (rwC D od).1 = dSt D := w2_ok (dSz D) 0 (rwB D) 0 (rwA D).2.2 (rOK_B h) (fun j hj => loR_lt (dSz D) od j hj) (Nat.le_of_eq (Nat.zero_add _))
theorem rOK_D {D : gDom} (od : Nat → Nat) (h : rOK D) : rOK (rwD D od) ∧ dSt (rwD D od) = dSt D := by
  obtain ⟨a, b, c, d⟩ := rOK_C od h
  obtain ⟨e, f⟩ := edR_ok (dSz (rwC D od).1) (rwC D od).1 a (Nat.le_refl _)
  exact ⟨e, f.trans d⟩
theorem k_work1 (M : gMo) {sc : Nat × (Nat → Int32)} {n0 : Nat} {E : gO → gH → Prop} : ∀ (n i : Nat) (f : Nat → Int32) (so : Int32) (s : Nat), i + n = 6 → s ≤ 9 → (kk : gW K_Mo_work sc { frames := 5, locals := 117, cells := 0, slots := 0 } n0 E 0 0 56 [(0, .ref 0)] [] (cMo (wSt (wD M ((r1 (dSt (mD M) 1) n i f so s).1, dG (mD M), dSz (mD M), dC (mD M), dSt (mD M), dSh (mD M), dCu (mD M), dLa (mD M), dSw (mD M), dDy (mD M), dDn (mD M), dLt (mD M), dLd (mD M), (r1 (dSt (mD M) 1) n i f so s).2.1)) ((r1 (dSt (mD M) 1) n i f so s).2.2)))) → gW K_Mo_work sc { frames := 5, locals := 117, cells := 0, slots := 0 } n0 E 0 0 13 [(0, .ref 0), (1, .int (nI i))] [] (cMo (wSt (wD M (f, dG (mD M), dSz (mD M), dC (mD M), dSt (mD M), dSh (mD M), dCu (mD M), dLa (mD M), dSw (mD M), dDy (mD M), dDn (mD M), dLt (mD M), dLd (mD M), so)) s)) := by
  intro n
  induction n with
  | zero =>
    intro i f so s hi hs kk
    obtain rfl : 6 = i := by omega
    refine gW_b D_Mo_work 8 2 (pc' := 16) (l' := [(0, .ref 0), (1, .int (nI 6))]) (st' := [.int 6, .int (nI 6)]) (h' := cMo (wSt (wD M (f, dG (mD M), dSz (mD M), dC (mD M), dSt (mD M), dSh (mD M), dCu (mD M), dLa (mD M), dSw (mD M), dDy (mD M), dDn (mD M), dLt (mD M), dLd (mD M), so)) s)) (P := True) rfl trivial ?_
    refine gW_ic_ge (gdec_at D_Mo_work 10 rfl) (tgt := 56) rfl (fun _ => ?_) (fun cq => absurd ((gle (gk 6) (rfl : nI 6 = nI 6) (by omega) (by omega)).mpr (by omega)) cq)
    refine gW_l [0] (l' := [(0, .ref 0)]) rfl ?_
    exact kk
  | succ n ih =>
    intro i f so s hi hs kk
    have hb2 := tn_le f i
    refine gW_b D_Mo_work 8 2 (pc' := 16) (l' := [(0, .ref 0), (1, .int (nI i))]) (st' := [.int 6, .int (nI i)]) (h' := cMo (wSt (wD M (f, dG (mD M), dSz (mD M), dC (mD M), dSt (mD M), dSh (mD M), dCu (mD M), dLa (mD M), dSw (mD M), dDy (mD M), dDn (mD M), dLt (mD M), dLd (mD M), so)) s)) (P := True) rfl trivial ?_
    refine gW_ic_ge (gdec_at D_Mo_work 10 rfl) (tgt := 56) rfl (fun cq => absurd cq (mt (gle (gk 6) (rfl : nI i = nI i) (by omega) (by omega)).mp (by omega))) (fun _ => ?_)
    refine gW_b D_Mo_work 11 2 (pc' := 23) (l' := [(0, .ref 0), (1, .int (nI i))]) (st' := [.int (nI s)]) (h' := cMo (wSt (wD M (f, dG (mD M), dSz (mD M), dC (mD M), dSt (mD M), dSh (mD M), dCu (mD M), dLa (mD M), dSw (mD M), dDy (mD M), dDn (mD M), dLt (mD M), dLd (mD M), so)) s)) (P := True) rfl trivial ?_
    refine gW_if_le (gdec_at D_Mo_work 13 rfl) (tgt := 50) rfl (fun c => ?_) (fun c => ?_)
    · have c := (gle (rfl : nI s = nI s) (gk 0) (by omega) (by omega)).mp c
      refine gW_b D_Mo_work 28 2 (pc' := 13) (l' := [(0, .ref 0), (1, .int ((nI i) + 1))]) (st' := []) (h' := cMo (wSt (wD M (f, dG (mD M), dSz (mD M), dC (mD M), dSt (mD M), dSh (mD M), dCu (mD M), dLa (mD M), dSw (mD M), dDy (mD M), dDn (mD M), dLt (mD M), dLd (mD M), so)) s)) (P := True) rfl trivial ?_
      rw [show ((nI i) + 1 : Int32) = nI (i + 1) from (gadd (rfl : nI i = nI i) (gk 1))]
      rw [show r1 (dSt (mD M) 1) (n + 1) i f so s = r1 (dSt (mD M) 1) n (i + 1) f so s from if_pos (by omega)] at kk
      exact ih (i + 1) f so s (by omega) (by omega) kk
    · have c := mt (gle (rfl : nI s = nI s) (gk 0) (by omega) (by omega)).mpr c
      refine gW_b D_Mo_work 14 2 (pc' := 28) (l' := [(0, .ref 0), (1, .int (nI i))]) (st' := [.int (nI i), .ref 0]) (h' := cMo (wSt (wD M (f, dG (mD M), dSz (mD M), dC (mD M), dSt (mD M), dSh (mD M), dCu (mD M), dLa (mD M), dSw (mD M), dDy (mD M), dDn (mD M), dLt (mD M), dLd (mD M), so)) s)) (P := True) rfl trivial ?_
      refine gW_callV (n_tonesIn (wSt (wD M (f, dG (mD M), dSz (mD M), dC (mD M), dSt (mD M), dSh (mD M), dCu (mD M), dLa (mD M), dSw (mD M), dDy (mD M), dDn (mD M), dLt (mD M), dLd (mD M), so)) s) i (by omega)) lk_Mo_95 [0, 1, 2, 3, 4, 5, 6] (gdec_at D_Mo_work 16 rfl) (st := []) rfl rfl ⟨rfl, rfl⟩ (Nat.le_of_ble_eq_true rfl) rfl (by decide) rfl (Nat.le_of_ble_eq_true rfl) ⟨Nat.le_of_ble_eq_true rfl, Nat.le_of_ble_eq_true rfl⟩ ⟨Nat.le_of_ble_eq_true rfl, Nat.le_of_ble_eq_true rfl⟩ (gAft_r rfl rfl (h' := cMo (wSt (wD M (f, dG (mD M), dSz (mD M), dC (mD M), dSt (mD M), dSh (mD M), dCu (mD M), dLa (mD M), dSw (mD M), dDy (mD M), dDn (mD M), dLt (mD M), dLd (mD M), so)) s)) (st' := [.int (nI (tn f i))]) (pc' := 31) (cs' := 0) (ss' := 0) rfl rfl rfl rfl rfl ?_)
      refine gW_b D_Mo_work 17 1 (pc' := 32) (l' := [(0, .ref 0), (1, .int (nI i))]) (st' := [.int 1, .int (nI (tn f i))]) (h' := cMo (wSt (wD M (f, dG (mD M), dSz (mD M), dC (mD M), dSt (mD M), dSh (mD M), dCu (mD M), dLa (mD M), dSw (mD M), dDy (mD M), dDn (mD M), dLt (mD M), dLd (mD M), so)) s)) (P := True) rfl trivial ?_
      refine gW_ic_le (gdec_at D_Mo_work 18 rfl) (tgt := 50) rfl (fun d => ?_) (fun d => ?_)
      · have d := (gle (rfl : nI (tn f i) = nI (tn f i)) (gk 1) (by omega) (by omega)).mp d
        refine gW_b D_Mo_work 28 2 (pc' := 13) (l' := [(0, .ref 0), (1, .int ((nI i) + 1))]) (st' := []) (h' := cMo (wSt (wD M (f, dG (mD M), dSz (mD M), dC (mD M), dSt (mD M), dSh (mD M), dCu (mD M), dLa (mD M), dSw (mD M), dDy (mD M), dDn (mD M), dLt (mD M), dLd (mD M), so)) s)) (P := True) rfl trivial ?_
        rw [show ((nI i) + 1 : Int32) = nI (i + 1) from (gadd (rfl : nI i = nI i) (gk 1))]
        rw [show r1 (dSt (mD M) 1) (n + 1) i f so s = r1 (dSt (mD M) 1) n (i + 1) f so s from (if_neg (by omega)).trans (if_pos d)] at kk
        exact ih (i + 1) f so s (by omega) (by omega) kk
      · have d := mt (gle (rfl : nI (tn f i) = nI (tn f i)) (gk 1) (by omega) (by omega)).mpr d
        refine gW_b D_Mo_work 19 2 (pc' := 37) (l' := [(0, .ref 0), (1, .int (nI i))]) (st' := [.int (nI i), .ref 0]) (h' := cMo (wSt (wD M (f, dG (mD M), dSz (mD M), dC (mD M), dSt (mD M), dSh (mD M), dCu (mD M), dLa (mD M), dSw (mD M), dDy (mD M), dDn (mD M), dLt (mD M), dLd (mD M), so)) s)) (P := True) rfl trivial ?_
        refine gW_callV (n_sort (wSt (wD M (f, dG (mD M), dSz (mD M), dC (mD M), dSt (mD M), dSh (mD M), dCu (mD M), dLa (mD M), dSw (mD M), dDy (mD M), dDn (mD M), dLt (mD M), dLd (mD M), so)) s) i (by omega)) lk_Mo_111 [0, 1, 2, 3, 4, 5, 6] (gdec_at D_Mo_work 21 rfl) (st := []) rfl rfl ⟨rfl, rfl⟩ (Nat.le_of_ble_eq_true rfl) rfl (by decide) rfl (Nat.le_of_ble_eq_true rfl) ⟨Nat.le_of_ble_eq_true rfl, Nat.le_of_ble_eq_true rfl⟩ ⟨Nat.le_of_ble_eq_true rfl, Nat.le_of_ble_eq_true rfl⟩ (gAft_r rfl rfl (h' := cMo (wSt (wD M (srR i (moc f i 3) ((dSt (mD M)) 1) f 4, dG (mD M), dSz (mD M), dC (mD M), dSt (mD M), dSh (mD M), dCu (mD M), dLa (mD M), dSw (mD M), dDy (mD M), dDn (mD M), dLt (mD M), dLd (mD M), so + 1)) s)) (st' := []) (pc' := 40) (cs' := 0) (ss' := 0) rfl rfl rfl rfl rfl ?_)
        refine gW_b D_Mo_work 22 8 (pc' := 13) (l' := [(0, .ref 0), (1, .int ((nI i) + 1))]) (st' := []) (h' := [cO 6 [.int (mTh M), .ref 1, .ref 2, .int (nI (mN M)), .ref 3, .ref 4, .int (nI (mTy M)), .ref 5, .int ((nI s) - 1), .ref 6, .int (nI (mPm M)), .int (nI (mSpt M)), .int (mWr M), .long (mHs M)], cI 103 (zD (srR i (moc f i 3) ((dSt (mD M)) 1) f 4, dG (mD M), dSz (mD M), dC (mD M), dSt (mD M), dSh (mD M), dCu (mD M), dLa (mD M), dSw (mD M), dDy (mD M), dDn (mD M), dLt (mD M), dLd (mD M), so + 1)), cI 618 (svF (mDs M)), cI 103 (zD (mSp M)), cI 60 (mBf M), cI 10 (oF (mOd M)), cI 39 (mPa M)]) (P := True) rfl trivial ?_
        rw [show ((nI i) + 1 : Int32) = nI (i + 1) from (gadd (rfl : nI i = nI i) (gk 1))]
        rw [show ((nI s) - 1 : Int32) = nI (s - 1) from (gsub (rfl : nI s = nI s) (gk 1) (by omega))]
        rw [show r1 (dSt (mD M) 1) (n + 1) i f so s = r1 (dSt (mD M) 1) n (i + 1) (srR i (moc f i 3) (dSt (mD M) 1) f 4) (so + 1) (s - 1) from (if_neg (by omega)).trans (if_neg d)] at kk
        exact ih (i + 1) (srR i (moc f i 3) (dSt (mD M) 1) f 4) (so + 1) (s - 1) (by omega) (by omega) kk
theorem k_work2 (M : gMo) {sc : Nat × (Nat → Int32)} {n0 : Nat} {E : gO → gH → Prop} : ∀ (n k : Nat) (D : gDom) (v : Int32) (s : Nat), k + n = dSz D → s ≤ 9 → rOK D → (∀ j, j < dSz D → mOd M j < dSz D) → (kk : gW K_Mo_work sc { frames := 5, locals := 117, cells := 0, slots := 0 } n0 E 0 0 94 [(0, .ref 0), (1, .int ((w2 (mOd M) n k D v s).2.1))] [] (cMo (wSt (wD M ((w2 (mOd M) n k D v s).1)) ((w2 (mOd M) n k D v s).2.2)))) → gW K_Mo_work sc { frames := 5, locals := 117, cells := 0, slots := 0 } n0 E 0 0 64 [(0, .ref 0), (1, .int v), (2, .int (nI k))] [] (cMo (wSt (wD M D) s)) := by
  intro n
  induction n with
  | zero =>
    intro k D v s hi hs hok ho kk
    have h10 := hok.1
    refine gW_b D_Mo_work 36 5 (pc' := 72) (l' := [(0, .ref 0), (1, .int v), (2, .int (nI k))]) (st' := [.int (nI (dSz D)), .int (nI k)]) (h' := cMo (wSt (wD M D) s)) (P := vp_in 52 103 ∧ True) rfl ⟨(gvl 52 103 (by omega) (by omega)), trivial⟩ ?_
    refine gW_ic_ge (gdec_at D_Mo_work 41 rfl) (tgt := 94) rfl (fun _ => ?_) (fun cq => absurd ((gle (rfl : nI (dSz D) = nI (dSz D)) (rfl : nI k = nI k) (by omega) (by omega)).mpr (by omega)) cq)
    refine gW_l [0, 1] (l' := [(0, .ref 0), (1, .int v)]) rfl ?_
    exact kk
  | succ n ih =>
    intro k D v s hi hs hok ho kk
    have h10 := hok.1
    have hk := ho k (by omega)
    obtain ⟨a1, a2, a3, a4⟩ := wkR_ok (s := mOd M k) s D 0 hok hk
    refine gW_b D_Mo_work 36 5 (pc' := 72) (l' := [(0, .ref 0), (1, .int v), (2, .int (nI k))]) (st' := [.int (nI (dSz D)), .int (nI k)]) (h' := cMo (wSt (wD M D) s)) (P := vp_in 52 103 ∧ True) rfl ⟨(gvl 52 103 (by omega) (by omega)), trivial⟩ ?_
    refine gW_ic_ge (gdec_at D_Mo_work 41 rfl) (tgt := 94) rfl (fun cq => absurd cq (mt (gle (rfl : nI (dSz D) = nI (dSz D)) (rfl : nI k = nI k) (by omega) (by omega)).mp (by omega))) (fun _ => ?_)
    refine gW_b D_Mo_work 42 6 (pc' := 83) (l' := [(0, .ref 0), (1, .int v), (2, .int (nI k))]) (st' := [.int (nI ((mOd M) (nI k).toNatClampNeg)), .ref 0, .int v]) (h' := cMo (wSt (wD M D) s)) (P := vp_in (nI k) 10 ∧ True) rfl ⟨(gvin (rfl : nI k = nI k) (by omega) (by omega)), trivial⟩ ?_
    rw [show (nI k).toNatClampNeg = k from gclp (rfl : nI k = nI k) (by omega)]
    refine gW_callV (n_workOn (wSt (wD M D) s) ((mOd M) k) s hok hk hs) lk_Mo_117 [0, 1, 2, 3, 4, 5, 6] (gdec_at D_Mo_work 48 rfl) (st := [.int v]) rfl rfl ⟨rfl, rfl⟩ (Nat.le_of_ble_eq_true rfl) rfl (by decide) rfl (Nat.le_of_ble_eq_true rfl) ⟨Nat.le_of_ble_eq_true rfl, Nat.le_of_ble_eq_true rfl⟩ ⟨Nat.le_of_ble_eq_true rfl, Nat.le_of_ble_eq_true rfl⟩ (gAft_r rfl rfl (h' := cMo (wSt (wD M ((wkR ((mOd M) k) s D 0).1)) ((wkR ((mOd M) k) s D 0).2.2))) (st' := [.int ((wkR ((mOd M) k) s D 0).2.1), .int v]) (pc' := 86) (cs' := 0) (ss' := 0) rfl rfl rfl rfl rfl ?_)
    refine gW_b D_Mo_work 49 4 (pc' := 64) (l' := [(0, .ref 0), (1, .int (v + ((wkR ((mOd M) k) s D 0).2.1))), (2, .int ((nI k) + 1))]) (st' := []) (h' := cMo (wSt (wD M ((wkR ((mOd M) k) s D 0).1)) ((wkR ((mOd M) k) s D 0).2.2))) (P := True) rfl trivial ?_
    rw [show ((nI k) + 1 : Int32) = nI (k + 1) from (gadd (rfl : nI k = nI k) (gk 1))]
    exact ih (k + 1) _ _ _ (by rw [a2]; omega) (by omega) a1 (by rw [a2]; exact ho) kk
theorem n_work (M : gMo) (hok : rOK (mD M)) (ho : odOK (mOd M)) : gM K_Mo_work { frames := 5, locals := 117, cells := 0, slots := 0 } [.ref 0] (cMo M) (gD (.inl (some (.int ((rwC (mD M) (mOd M)).2.1)))) (cMo (wSt (wOd (wD M (rwD (mD M) (mOd M))) (rwO (mD M) (mOd M))) ((rwC (mD M) (mOd M)).2.2)))) := by
  refine gM_of rfl rfl (Nat.le_of_ble_eq_true rfl) (fun sc => ?_)
  have h10 := hok.1
  obtain ⟨-, -, -, -, -, -, -, -, h3, h31⟩ := id hok
  have hA := r1_le (r := dSt (mD M) 1) 6 0 (dTr (mD M)) (dSo (mD M)) (tnx (dSt (mD M) 3))
  obtain ⟨hC, hC2, hC3, hC4⟩ := rOK_C (mOd M) hok
  refine gW_b D_Mo_work 0 5 (pc' := 8) (l' := [(0, .ref 0)]) (st' := [.int ((dSt (mD M)) 3), .ref 0]) (h' := cMo M) (P := vp_in 31 103 ∧ True) rfl ⟨(gvl 31 103 (by omega) (by omega)), trivial⟩ ?_
  refine gW_st (st' := [.int (nI (tnx (dSt (mD M) 3))), .ref 0]) (by rw [← h3]) ?_
  refine gW_b D_Mo_work 5 3 (pc' := 13) (l' := [(0, .ref 0), (1, .int 0)]) (st' := []) (h' := cMo (wSt M (tnx (dSt (mD M) 3)))) (P := True) rfl trivial ?_
  refine k_work1 (wSt M (tnx (dSt (mD M) 3))) 6 0 (dTr (mD M)) (dSo (mD M)) (tnx (dSt (mD M) 3)) rfl h31 ?_
  show gW K_Mo_work sc { frames := 5, locals := 117, cells := 0, slots := 0 } _ _ 0 0 56 [(0, .ref 0)] [] (cMo (wSt (wD M (rwB (mD M))) ((rwA (mD M)).2.2)))
  refine gW_b D_Mo_work 30 1 (pc' := 57) (l' := [(0, .ref 0)]) (st' := [.ref 0]) (h' := cMo (wSt (wD M (rwB (mD M))) ((rwA (mD M)).2.2))) (P := True) rfl trivial ?_
  refine gW_callV (n_layOrder (wSt (wD M (rwB (mD M))) ((rwA (mD M)).2.2)) (show dSz (mD M) ≤ 10 from h10) ho) lk_Mo_114 [0, 1, 2, 3, 4, 5, 6] (gdec_at D_Mo_work 31 rfl) (st := []) rfl rfl ⟨rfl, rfl⟩ (Nat.le_of_ble_eq_true rfl) rfl (by decide) rfl (Nat.le_of_ble_eq_true rfl) ⟨Nat.le_of_ble_eq_true rfl, Nat.le_of_ble_eq_true rfl⟩ ⟨Nat.le_of_ble_eq_true rfl, Nat.le_of_ble_eq_true rfl⟩ (gAft_r rfl rfl (h' := cMo (wSt (wOd (wD M (rwB (mD M))) (rwO (mD M) (mOd M))) ((rwA (mD M)).2.2))) (st' := []) (pc' := 60) (cs' := 0) (ss' := 0) rfl rfl rfl rfl rfl ?_)
  refine gW_b D_Mo_work 32 4 (pc' := 64) (l' := [(0, .ref 0), (1, .int 0), (2, .int 0)]) (st' := []) (h' := cMo (wSt (wOd (wD M (rwB (mD M))) (rwO (mD M) (mOd M))) ((rwA (mD M)).2.2))) (P := True) rfl trivial ?_
  refine k_work2 (wOd M (rwO (mD M) (mOd M))) (dSz (mD M)) 0 (rwB (mD M)) 0 (rwA (mD M)).2.2 (Nat.zero_add _) (show (rwA (mD M)).2.2 ≤ 9 from Nat.le_trans hA h31) (rOK_B hok) (fun j hj => loR_lt (dSz (mD M)) (mOd M) j hj) ?_
  show gW K_Mo_work sc { frames := 5, locals := 117, cells := 0, slots := 0 } _ _ 0 0 94 [(0, .ref 0), (1, .int ((rwC (mD M) (mOd M)).2.1))] [] (cMo (wSt (wOd (wD M ((rwC (mD M) (mOd M)).1)) (rwO (mD M) (mOd M))) ((rwC (mD M) (mOd M)).2.2)))
  refine gW_b D_Mo_work 53 1 (pc' := 95) (l' := [(0, .ref 0), (1, .int ((rwC (mD M) (mOd M)).2.1))]) (st' := [.ref 0]) (h' := cMo (wSt (wOd (wD M ((rwC (mD M) (mOd M)).1)) (rwO (mD M) (mOd M))) ((rwC (mD M) (mOd M)).2.2))) (P := True) rfl trivial ?_
  refine gW_callV (n_endDone (wSt (wOd (wD M ((rwC (mD M) (mOd M)).1)) (rwO (mD M) (mOd M))) ((rwC (mD M) (mOd M)).2.2)) hC.1) lk_Mo_120 [0, 1, 2, 3, 4, 5, 6] (gdec_at D_Mo_work 54 rfl) (st := []) rfl rfl ⟨rfl, rfl⟩ (Nat.le_of_ble_eq_true rfl) rfl (by decide) rfl (Nat.le_of_ble_eq_true rfl) ⟨Nat.le_of_ble_eq_true rfl, Nat.le_of_ble_eq_true rfl⟩ ⟨Nat.le_of_ble_eq_true rfl, Nat.le_of_ble_eq_true rfl⟩ (gAft_r rfl rfl (h' := cMo (wSt (wOd (wD M (edR (dSz ((rwC (mD M) (mOd M)).1)) ((rwC (mD M) (mOd M)).1))) (rwO (mD M) (mOd M))) ((rwC (mD M) (mOd M)).2.2))) (st' := []) (pc' := 98) (cs' := 0) (ss' := 0) rfl rfl rfl rfl rfl ?_)
  refine gW_b D_Mo_work 55 8 (pc' := 109) (l' := [(0, .ref 0), (1, .int ((rwC (mD M) (mOd M)).2.1))]) (st' := []) (h' := [cO 6 [.int (mTh M), .ref 1, .ref 2, .int (nI (mN M)), .ref 3, .ref 4, .int (nI (mTy M)), .ref 5, .int (nI ((rwC (mD M) (mOd M)).2.2)), .ref 6, .int (nI (mPm M)), .int (nI (mSpt M)), .int (mWr M), .long (mHs M)], cI 103 (upd (zD (edR (dSz ((rwC (mD M) (mOd M)).1)) ((rwC (mD M) (mOd M)).1))) 34 ((dDy (edR (dSz ((rwC (mD M) (mOd M)).1)) ((rwC (mD M) (mOd M)).1))) + 1)), cI 618 (svF (mDs M)), cI 103 (zD (mSp M)), cI 60 (mBf M), cI 10 (oF (rwO (mD M) (mOd M))), cI 39 (mPa M)]) (P := vp_in 34 103 ∧ vp_in 34 103 ∧ True) rfl ⟨(gvl 34 103 (by omega) (by omega)), (gvl 34 103 (by omega) (by omega)), trivial⟩ ?_
  rw [show upd (zD (edR (dSz ((rwC (mD M) (mOd M)).1)) ((rwC (mD M) (mOd M)).1))) 34 ((dDy (edR (dSz ((rwC (mD M) (mOd M)).1)) ((rwC (mD M) (mOd M)).1))) + 1) = zD (dTr (edR (dSz ((rwC (mD M) (mOd M)).1)) ((rwC (mD M) (mOd M)).1)), dG (edR (dSz ((rwC (mD M) (mOd M)).1)) ((rwC (mD M) (mOd M)).1)), dSz (edR (dSz ((rwC (mD M) (mOd M)).1)) ((rwC (mD M) (mOd M)).1)), dC (edR (dSz ((rwC (mD M) (mOd M)).1)) ((rwC (mD M) (mOd M)).1)), dSt (edR (dSz ((rwC (mD M) (mOd M)).1)) ((rwC (mD M) (mOd M)).1)), dSh (edR (dSz ((rwC (mD M) (mOd M)).1)) ((rwC (mD M) (mOd M)).1)), dCu (edR (dSz ((rwC (mD M) (mOd M)).1)) ((rwC (mD M) (mOd M)).1)), dLa (edR (dSz ((rwC (mD M) (mOd M)).1)) ((rwC (mD M) (mOd M)).1)), dSw (edR (dSz ((rwC (mD M) (mOd M)).1)) ((rwC (mD M) (mOd M)).1)), (dDy (edR (dSz ((rwC (mD M) (mOd M)).1)) ((rwC (mD M) (mOd M)).1))) + 1, dDn (edR (dSz ((rwC (mD M) (mOd M)).1)) ((rwC (mD M) (mOd M)).1)), dLt (edR (dSz ((rwC (mD M) (mOd M)).1)) ((rwC (mD M) (mOd M)).1)), dLd (edR (dSz ((rwC (mD M) (mOd M)).1)) ((rwC (mD M) (mOd M)).1)), dSo (edR (dSz ((rwC (mD M) (mOd M)).1)) ((rwC (mD M) (mOd M)).1))) from zu_34 (edR (dSz ((rwC (mD M) (mOd M)).1)) ((rwC (mD M) (mOd M)).1)) ((dDy (edR (dSz ((rwC (mD M) (mOd M)).1)) ((rwC (mD M) (mOd M)).1))) + 1)]
  refine gW_b D_Mo_work 63 1 (pc' := 110) (l' := [(0, .ref 0), (1, .int ((rwC (mD M) (mOd M)).2.1))]) (st' := [.int ((rwC (mD M) (mOd M)).2.1)]) (h' := cMo (wSt (wOd (wD M (dTr (edR (dSz ((rwC (mD M) (mOd M)).1)) ((rwC (mD M) (mOd M)).1)), dG (edR (dSz ((rwC (mD M) (mOd M)).1)) ((rwC (mD M) (mOd M)).1)), dSz (edR (dSz ((rwC (mD M) (mOd M)).1)) ((rwC (mD M) (mOd M)).1)), dC (edR (dSz ((rwC (mD M) (mOd M)).1)) ((rwC (mD M) (mOd M)).1)), dSt (edR (dSz ((rwC (mD M) (mOd M)).1)) ((rwC (mD M) (mOd M)).1)), dSh (edR (dSz ((rwC (mD M) (mOd M)).1)) ((rwC (mD M) (mOd M)).1)), dCu (edR (dSz ((rwC (mD M) (mOd M)).1)) ((rwC (mD M) (mOd M)).1)), dLa (edR (dSz ((rwC (mD M) (mOd M)).1)) ((rwC (mD M) (mOd M)).1)), dSw (edR (dSz ((rwC (mD M) (mOd M)).1)) ((rwC (mD M) (mOd M)).1)), (dDy (edR (dSz ((rwC (mD M) (mOd M)).1)) ((rwC (mD M) (mOd M)).1))) + 1, dDn (edR (dSz ((rwC (mD M) (mOd M)).1)) ((rwC (mD M) (mOd M)).1)), dLt (edR (dSz ((rwC (mD M) (mOd M)).1)) ((rwC (mD M) (mOd M)).1)), dLd (edR (dSz ((rwC (mD M) (mOd M)).1)) ((rwC (mD M) (mOd M)).1)), dSo (edR (dSz ((rwC (mD M) (mOd M)).1)) ((rwC (mD M) (mOd M)).1)))) (rwO (mD M) (mOd M))) ((rwC (mD M) (mOd M)).2.2))) (P := True) rfl trivial ?_
  exact gW_iret (gdec_at D_Mo_work 64 rfl) rfl rfl (Nat.le_of_ble_eq_true rfl) ⟨rfl, rfl⟩ (Nat.le_of_ble_eq_true rfl) (Nat.le_of_ble_eq_true rfl)
/-- n days: dome, order, setters left, cubes that came in -/
def dyR (D : gDom) (od : Nat → Nat) (st : Nat) : Nat → gDom × (Nat → Nat) × Nat × Int32
  | 0 => (D, od, st, 0)
  | n + 1 => (rwD (dyR D od st n).1 (dyR D od st n).2.1, rwO (dyR D od st n).1 (dyR D od st n).2.1, (rwC (dyR D od st n).1 (dyR D od st n).2.1).2.2, (dyR D od st n).2.2.2 + (rwC (dyR D od st n).1 (dyR D od st n).2.1).2.1)
theorem odOK_O {D : gDom} {od : Nat → Nat} (h : rOK D) (ho : odOK od) : odOK (rwO D od) := odOK_R _ od h.1 ho
theorem dyR_ok {D : gDom} {od : Nat → Nat} {st : Nat} (h : rOK D) (ho : odOK od) : ∀ n, rOK (dyR D od st n).1 ∧ odOK (dyR D od st n).2.1 ∧ dSt (dyR D od st n).1 = dSt D
  | 0 => ⟨h, ho, rfl⟩
  | n + 1 => by
    obtain ⟨a, b, c⟩ := dyR_ok (st := st) h ho n
    obtain ⟨d, e⟩ := rOK_D (dyR D od st n).2.1 a
    exact ⟨d, odOK_O a b, e.trans c⟩
theorem k_days (M : gMo) (d : Nat) (hok : rOK (mD M)) (ho : odOK (mOd M)) (hd : d ≤ 60) {sc : Nat × (Nat → Int32)} {n0 : Nat} {E : gO → gH → Prop} (kk : gW K_Mo_days sc { frames := 6, locals := 139, cells := 0, slots := 0 } n0 E 0 0 22 [(0, .ref 0), (1, .int (nI d)), (2, .int ((dyR (mD M) (mOd M) (mSt M) d).2.2.2)), (3, .int (nI d))] [] (cMo (wSt (wOd (wD M ((dyR (mD M) (mOd M) (mSt M) d).1)) ((dyR (mD M) (mOd M) (mSt M) d).2.1)) ((dyR (mD M) (mOd M) (mSt M) d).2.2.1)))) : ∀ (n i : Nat), i + n = d → gW K_Mo_days sc { frames := 6, locals := 139, cells := 0, slots := 0 } n0 E 0 0 4 [(0, .ref 0), (1, .int (nI d)), (2, .int ((dyR (mD M) (mOd M) (mSt M) i).2.2.2)), (3, .int (nI i))] [] (cMo (wSt (wOd (wD M ((dyR (mD M) (mOd M) (mSt M) i).1)) ((dyR (mD M) (mOd M) (mSt M) i).2.1)) ((dyR (mD M) (mOd M) (mSt M) i).2.2.1))) := by
  intro n
  induction n with
  | zero =>
    intro i hi
    obtain rfl : d = i := by omega
    refine gW_b D_Mo_days 4 2 (pc' := 6) (l' := [(0, .ref 0), (1, .int (nI d)), (2, .int ((dyR (mD M) (mOd M) (mSt M) d).2.2.2)), (3, .int (nI d))]) (st' := [.int (nI d), .int (nI d)]) (h' := cMo (wSt (wOd (wD M ((dyR (mD M) (mOd M) (mSt M) d).1)) ((dyR (mD M) (mOd M) (mSt M) d).2.1)) ((dyR (mD M) (mOd M) (mSt M) d).2.2.1))) (P := True) rfl trivial ?_
    refine gW_ic_ge (gdec_at D_Mo_days 6 rfl) (tgt := 22) rfl (fun _ => ?_) (fun cq => absurd ((gle (rfl : nI d = nI d) (rfl : nI d = nI d) (by omega) (by omega)).mpr (by omega)) cq)
    exact kk
  | succ n ih =>
    intro i hi
    refine gW_b D_Mo_days 4 2 (pc' := 6) (l' := [(0, .ref 0), (1, .int (nI d)), (2, .int ((dyR (mD M) (mOd M) (mSt M) i).2.2.2)), (3, .int (nI i))]) (st' := [.int (nI d), .int (nI i)]) (h' := cMo (wSt (wOd (wD M ((dyR (mD M) (mOd M) (mSt M) i).1)) ((dyR (mD M) (mOd M) (mSt M) i).2.1)) ((dyR (mD M) (mOd M) (mSt M) i).2.2.1))) (P := True) rfl trivial ?_
    refine gW_ic_ge (gdec_at D_Mo_days 6 rfl) (tgt := 22) rfl (fun cq => absurd cq (mt (gle (rfl : nI d = nI d) (rfl : nI i = nI i) (by omega) (by omega)).mp (by omega))) (fun _ => ?_)
    obtain ⟨a1, a2, a3⟩ := dyR_ok (st := mSt M) hok ho i
    refine gW_b D_Mo_days 7 2 (pc' := 11) (l' := [(0, .ref 0), (1, .int (nI d)), (2, .int ((dyR (mD M) (mOd M) (mSt M) i).2.2.2)), (3, .int (nI i))]) (st' := [.ref 0, .int ((dyR (mD M) (mOd M) (mSt M) i).2.2.2)]) (h' := cMo (wSt (wOd (wD M ((dyR (mD M) (mOd M) (mSt M) i).1)) ((dyR (mD M) (mOd M) (mSt M) i).2.1)) ((dyR (mD M) (mOd M) (mSt M) i).2.2.1))) (P := True) rfl trivial ?_
    refine gW_callV (n_work (wSt (wOd (wD M ((dyR (mD M) (mOd M) (mSt M) i).1)) ((dyR (mD M) (mOd M) (mSt M) i).2.1)) ((dyR (mD M) (mOd M) (mSt M) i).2.2.1)) a1 a2) lk_Mo_123 [0, 1, 2, 3, 4, 5, 6] (gdec_at D_Mo_days 9 rfl) (st := [.int ((dyR (mD M) (mOd M) (mSt M) i).2.2.2)]) rfl rfl ⟨rfl, rfl⟩ (Nat.le_of_ble_eq_true rfl) rfl (by decide) rfl (Nat.le_of_ble_eq_true rfl) ⟨Nat.le_of_ble_eq_true rfl, Nat.le_of_ble_eq_true rfl⟩ ⟨Nat.le_of_ble_eq_true rfl, Nat.le_of_ble_eq_true rfl⟩ (gAft_r rfl rfl (h' := cMo (wSt (wOd (wD M (rwD ((dyR (mD M) (mOd M) (mSt M) i).1) ((dyR (mD M) (mOd M) (mSt M) i).2.1))) (rwO ((dyR (mD M) (mOd M) (mSt M) i).1) ((dyR (mD M) (mOd M) (mSt M) i).2.1))) ((rwC ((dyR (mD M) (mOd M) (mSt M) i).1) ((dyR (mD M) (mOd M) (mSt M) i).2.1)).2.2))) (st' := [.int ((rwC ((dyR (mD M) (mOd M) (mSt M) i).1) ((dyR (mD M) (mOd M) (mSt M) i).2.1)).2.1), .int ((dyR (mD M) (mOd M) (mSt M) i).2.2.2)]) (pc' := 14) (cs' := 0) (ss' := 0) rfl rfl rfl rfl rfl ?_)
    refine gW_b D_Mo_days 10 4 (pc' := 4) (l' := [(0, .ref 0), (1, .int (nI d)), (2, .int (((dyR (mD M) (mOd M) (mSt M) i).2.2.2) + ((rwC ((dyR (mD M) (mOd M) (mSt M) i).1) ((dyR (mD M) (mOd M) (mSt M) i).2.1)).2.1))), (3, .int ((nI i) + 1))]) (st' := []) (h' := cMo (wSt (wOd (wD M (rwD ((dyR (mD M) (mOd M) (mSt M) i).1) ((dyR (mD M) (mOd M) (mSt M) i).2.1))) (rwO ((dyR (mD M) (mOd M) (mSt M) i).1) ((dyR (mD M) (mOd M) (mSt M) i).2.1))) ((rwC ((dyR (mD M) (mOd M) (mSt M) i).1) ((dyR (mD M) (mOd M) (mSt M) i).2.1)).2.2))) (P := True) rfl trivial ?_
    rw [show ((nI i) + 1 : Int32) = nI (i + 1) from (gadd (rfl : nI i = nI i) (gk 1))]
    exact ih (i + 1) (by omega)
theorem n_days (M : gMo) (d : Nat) (hok : rOK (mD M)) (ho : odOK (mOd M)) (hd : d ≤ 60) : gM K_Mo_days { frames := 6, locals := 139, cells := 0, slots := 0 } [.ref 0, .int (nI d)] (cMo M) (gD (.inl (some (.int ((dyR (mD M) (mOd M) (mSt M) d).2.2.2)))) (cMo (wSt (wOd (wD M ((dyR (mD M) (mOd M) (mSt M) d).1)) ((dyR (mD M) (mOd M) (mSt M) d).2.1)) ((dyR (mD M) (mOd M) (mSt M) d).2.2.1)))) := by
  refine gM_of rfl rfl (Nat.le_of_ble_eq_true rfl) (fun sc => ?_)
  refine gW_b D_Mo_days 0 4 (pc' := 4) (l' := [(0, .ref 0), (1, .int (nI d)), (2, .int 0), (3, .int 0)]) (st' := []) (h' := cMo M) (P := True) rfl trivial ?_
  refine k_days M d hok ho hd ?_ d 0 (Nat.zero_add _)
  refine gW_b D_Mo_days 14 1 (pc' := 23) (l' := [(0, .ref 0), (1, .int (nI d)), (2, .int ((dyR (mD M) (mOd M) (mSt M) d).2.2.2)), (3, .int (nI d))]) (st' := [.int ((dyR (mD M) (mOd M) (mSt M) d).2.2.2)]) (h' := cMo (wSt (wOd (wD M ((dyR (mD M) (mOd M) (mSt M) d).1)) ((dyR (mD M) (mOd M) (mSt M) d).2.1)) ((dyR (mD M) (mOd M) (mSt M) d).2.2.1))) (P := True) rfl trivial ?_
  exact gW_iret (gdec_at D_Mo_days 15 rfl) rfl rfl (Nat.le_of_ble_eq_true rfl) ⟨rfl, rfl⟩ (Nat.le_of_ble_eq_true rfl) (Nat.le_of_ble_eq_true rfl)
theorem n_pass (M : gMo) (hn : mN M ≤ 6) (d : Nat) (hok : rOK (mD M)) (ho : odOK (mOd M)) (h1 : 1 ≤ d) (h2 : d ≤ 60) (h : ¬ 9999 < dDy (mD M) + nI d) : gM K_Mo_pass { frames := 7, locals := 162, cells := 0, slots := 0 } [.ref 0, .int (nI d)] (cMo M) (gD (.inl (some (.int ((dyR (mD M) (mOd M) (mSt M) d).2.2.2)))) (cMo (wSt (wOd (wN (wDs (wD (wTh M 0) ((dyR (mD M) (mOd M) (mSt M) d).1)) (svDs (mN M) (mDs M) (mD M))) (svN (mN M))) ((dyR (mD M) (mOd M) (mSt M) d).2.1)) ((dyR (mD M) (mOd M) (mSt M) d).2.2.1)))) := by
  refine gM_of rfl rfl (Nat.le_of_ble_eq_true rfl) (fun sc => ?_)
  refine gW_b D_Mo_pass 0 4 (pc' := 5) (l' := [(0, .ref 0), (1, .int (nI d))]) (st' := [.int 60, .int 1, .int (nI d), .ref 0]) (h' := cMo M) (P := True) rfl trivial ?_
  refine gW_callS (n_in_t (nI d) 1 60 (mt (glt (rfl : nI d = nI d) (gk 1) (by omega) (by omega)).mp (by omega)) (mt (glt (gk 60) (rfl : nI d = nI d) (by omega) (by omega)).mp (by omega))) lk_Mo_32 [] (gdec_at D_Mo_pass 4 rfl) (st := [.ref 0]) rfl rfl ⟨rfl, rfl⟩ (Nat.le_of_ble_eq_true rfl) (Nat.le_of_ble_eq_true rfl) ⟨Nat.le_of_ble_eq_true rfl, Nat.le_of_ble_eq_true rfl⟩ ⟨Nat.le_of_ble_eq_true rfl, Nat.le_of_ble_eq_true rfl⟩ (gAft_r rfl rfl (h' := cMo M) (st' := [.int 1, .ref 0]) (pc' := 8) (cs' := 0) (ss' := 0) rfl rfl rfl rfl rfl ?_)
  refine gW_if_ne (gdec_at D_Mo_pass 5 rfl) (tgt := 15) rfl (fun _ => ?_) (fun cq => absurd cq (by decide))
  refine gW_b D_Mo_pass 8 7 (pc' := 27) (l' := [(0, .ref 0), (1, .int (nI d))]) (st' := [.int 9999, .int ((dDy (mD M)) + (nI d)), .ref 0]) (h' := cMo M) (P := vp_in 34 103 ∧ True) rfl ⟨(gvl 34 103 (by omega) (by omega)), trivial⟩ ?_
  refine gW_ic_le (gdec_at D_Mo_pass 15 rfl) (tgt := 34) rfl (fun _ => ?_) (fun cq => absurd (Int32.not_lt.mp h) cq)
  refine gW_b D_Mo_pass 18 4 (pc' := 42) (l' := [(0, .ref 0), (1, .int (nI d))]) (st' := [.int 0]) (h' := cMo (wTh M 0)) (P := True) rfl trivial ?_
  refine gW_if_le (gdec_at D_Mo_pass 22 rfl) (tgt := 47) rfl (fun _ => ?_) (fun cq => absurd (by decide) cq)
  refine gW_b D_Mo_pass 25 1 (pc' := 48) (l' := [(0, .ref 0), (1, .int (nI d))]) (st' := [.ref 0]) (h' := cMo (wTh M 0)) (P := True) rfl trivial ?_
  refine gW_callV (n_save (wTh M 0) (by first | assumption | omega) ) lk_Mo_62 [0, 1, 2, 3, 4, 5, 6] (gdec_at D_Mo_pass 26 rfl) (st := []) rfl rfl ⟨rfl, rfl⟩ (Nat.le_of_ble_eq_true rfl) rfl (by decide) rfl (Nat.le_of_ble_eq_true rfl) ⟨Nat.le_of_ble_eq_true rfl, Nat.le_of_ble_eq_true rfl⟩ ⟨Nat.le_of_ble_eq_true rfl, Nat.le_of_ble_eq_true rfl⟩ (gAft_r rfl rfl (h' := cMo (wN (wDs (wTh M 0) (svDs (mN M) (mDs M) (mD M))) (svN (mN M)))) (st' := []) (pc' := 51) (cs' := 0) (ss' := 0) rfl rfl rfl rfl rfl ?_)
  refine gW_b D_Mo_pass 27 2 (pc' := 53) (l' := [(0, .ref 0), (1, .int (nI d))]) (st' := [.int (nI d), .ref 0]) (h' := cMo (wN (wDs (wTh M 0) (svDs (mN M) (mDs M) (mD M))) (svN (mN M)))) (P := True) rfl trivial ?_
  refine gW_callV (n_days (wN (wDs (wTh M 0) (svDs (mN M) (mDs M) (mD M))) (svN (mN M))) d hok ho h2) lk_Mo_126 [0, 1, 2, 3, 4, 5, 6] (gdec_at D_Mo_pass 29 rfl) (st := []) rfl rfl ⟨rfl, rfl⟩ (Nat.le_of_ble_eq_true rfl) rfl (by decide) rfl (Nat.le_of_ble_eq_true rfl) ⟨Nat.le_of_ble_eq_true rfl, Nat.le_of_ble_eq_true rfl⟩ ⟨Nat.le_of_ble_eq_true rfl, Nat.le_of_ble_eq_true rfl⟩ (gAft_r rfl rfl (h' := cMo (wSt (wOd (wN (wDs (wD (wTh M 0) ((dyR (mD M) (mOd M) (mSt M) d).1)) (svDs (mN M) (mDs M) (mD M))) (svN (mN M))) ((dyR (mD M) (mOd M) (mSt M) d).2.1)) ((dyR (mD M) (mOd M) (mSt M) d).2.2.1))) (st' := [.int ((dyR (mD M) (mOd M) (mSt M) d).2.2.2)]) (pc' := 56) (cs' := 0) (ss' := 0) rfl rfl rfl rfl rfl ?_)
  exact gW_iret (gdec_at D_Mo_pass 30 rfl) rfl rfl (Nat.le_of_ble_eq_true rfl) ⟨rfl, rfl⟩ (Nat.le_of_ble_eq_true rfl) (Nat.le_of_ble_eq_true rfl)
theorem n_pass_x1 (M : gMo) (x : Int32) (h : x < 1 ∨ 60 < x) : gM K_Mo_pass { frames := 7, locals := 162, cells := 0, slots := 0 } [.ref 0, .int x] (cMo M) (gD (.inl (some (.int 0))) (cMo (wTh M 1))) := by
  refine gM_of rfl rfl (Nat.le_of_ble_eq_true rfl) (fun sc => ?_)
  refine gW_b D_Mo_pass 0 4 (pc' := 5) (l' := [(0, .ref 0), (1, .int x)]) (st' := [.int 60, .int 1, .int x, .ref 0]) (h' := cMo M) (P := True) rfl trivial ?_
  refine gW_callS (n_in_f x 1 60 h) lk_Mo_32 [] (gdec_at D_Mo_pass 4 rfl) (st := [.ref 0]) rfl rfl ⟨rfl, rfl⟩ (Nat.le_of_ble_eq_true rfl) (Nat.le_of_ble_eq_true rfl) ⟨Nat.le_of_ble_eq_true rfl, Nat.le_of_ble_eq_true rfl⟩ ⟨Nat.le_of_ble_eq_true rfl, Nat.le_of_ble_eq_true rfl⟩ (gAft_r rfl rfl (h' := cMo M) (st' := [.int 0, .ref 0]) (pc' := 8) (cs' := 0) (ss' := 0) rfl rfl rfl rfl rfl ?_)
  refine gW_if_ne (gdec_at D_Mo_pass 5 rfl) (tgt := 15) rfl (fun cq => absurd (by decide) cq) (fun _ => ?_)
  refine gW_b D_Mo_pass 6 2 (pc' := 35) (l' := [(0, .ref 0), (1, .int x)]) (st' := [.int 1, .ref 0]) (h' := cMo M) (P := True) rfl trivial ?_
  refine gW_b D_Mo_pass 19 3 (pc' := 42) (l' := [(0, .ref 0), (1, .int x)]) (st' := [.int 1]) (h' := cMo (wTh M 1)) (P := True) rfl trivial ?_
  refine gW_if_le (gdec_at D_Mo_pass 22 rfl) (tgt := 47) rfl (fun cq => absurd cq (by decide)) (fun _ => ?_)
  refine gW_b D_Mo_pass 23 1 (pc' := 46) (l' := [(0, .ref 0), (1, .int x)]) (st' := [.int 0]) (h' := cMo (wTh M 1)) (P := True) rfl trivial ?_
  exact gW_iret (gdec_at D_Mo_pass 24 rfl) rfl rfl (Nat.le_of_ble_eq_true rfl) ⟨rfl, rfl⟩ (Nat.le_of_ble_eq_true rfl) (Nat.le_of_ble_eq_true rfl)
theorem n_pass_x2 (M : gMo) (d : Nat) (h1 : 1 ≤ d) (h2 : d ≤ 60) (h : 9999 < dDy (mD M) + nI d) : gM K_Mo_pass { frames := 7, locals := 162, cells := 0, slots := 0 } [.ref 0, .int (nI d)] (cMo M) (gD (.inl (some (.int 0))) (cMo (wTh M 2))) := by
  refine gM_of rfl rfl (Nat.le_of_ble_eq_true rfl) (fun sc => ?_)
  refine gW_b D_Mo_pass 0 4 (pc' := 5) (l' := [(0, .ref 0), (1, .int (nI d))]) (st' := [.int 60, .int 1, .int (nI d), .ref 0]) (h' := cMo M) (P := True) rfl trivial ?_
  refine gW_callS (n_in_t (nI d) 1 60 (mt (glt (rfl : nI d = nI d) (gk 1) (by omega) (by omega)).mp (by omega)) (mt (glt (gk 60) (rfl : nI d = nI d) (by omega) (by omega)).mp (by omega))) lk_Mo_32 [] (gdec_at D_Mo_pass 4 rfl) (st := [.ref 0]) rfl rfl ⟨rfl, rfl⟩ (Nat.le_of_ble_eq_true rfl) (Nat.le_of_ble_eq_true rfl) ⟨Nat.le_of_ble_eq_true rfl, Nat.le_of_ble_eq_true rfl⟩ ⟨Nat.le_of_ble_eq_true rfl, Nat.le_of_ble_eq_true rfl⟩ (gAft_r rfl rfl (h' := cMo M) (st' := [.int 1, .ref 0]) (pc' := 8) (cs' := 0) (ss' := 0) rfl rfl rfl rfl rfl ?_)
  refine gW_if_ne (gdec_at D_Mo_pass 5 rfl) (tgt := 15) rfl (fun _ => ?_) (fun cq => absurd cq (by decide))
  refine gW_b D_Mo_pass 8 7 (pc' := 27) (l' := [(0, .ref 0), (1, .int (nI d))]) (st' := [.int 9999, .int ((dDy (mD M)) + (nI d)), .ref 0]) (h' := cMo M) (P := vp_in 34 103 ∧ True) rfl ⟨(gvl 34 103 (by omega) (by omega)), trivial⟩ ?_
  refine gW_ic_le (gdec_at D_Mo_pass 15 rfl) (tgt := 34) rfl (fun cq => absurd cq (Int32.not_le.mpr h)) (fun _ => ?_)
  refine gW_b D_Mo_pass 16 2 (pc' := 35) (l' := [(0, .ref 0), (1, .int (nI d))]) (st' := [.int 2, .ref 0]) (h' := cMo M) (P := True) rfl trivial ?_
  refine gW_b D_Mo_pass 19 3 (pc' := 42) (l' := [(0, .ref 0), (1, .int (nI d))]) (st' := [.int 2]) (h' := cMo (wTh M 2)) (P := True) rfl trivial ?_
  refine gW_if_le (gdec_at D_Mo_pass 22 rfl) (tgt := 47) rfl (fun cq => absurd cq (by decide)) (fun _ => ?_)
  refine gW_b D_Mo_pass 23 1 (pc' := 46) (l' := [(0, .ref 0), (1, .int (nI d))]) (st' := [.int 0]) (h' := cMo (wTh M 2)) (P := True) rfl trivial ?_
  exact gW_iret (gdec_at D_Mo_pass 24 rfl) rfl rfl (Nat.le_of_ble_eq_true rfl) ⟨rfl, rfl⟩ (Nat.le_of_ble_eq_true rfl) (Nat.le_of_ble_eq_true rfl)
