/-! WHAT HOLDS BETWEEN THE CALLS: the class and the reference stand alike -/
theorem days_r {j : Nat} (hj : j ≤ 600) {DC D : gDom} (h : DI j D) (hr : DRl DC D) (hz : ∀ p, p < dSz D → ¬ dG D (p * 5 + 2) = 0) : ∀ n : Nat, (dDy D).toInt + (n : Int) ≤ 10999 →
    DRl (pdI n DC) (dyC D n).1 ∧ DI j (dyC D n).1 ∧ (∀ p, p < dSz (dyC D n).1 → ¬ dG (dyC D n).1 (p * 5 + 2) = 0) ∧ (dDy (dyC D n).1).toInt = (dDy D).toInt + n ∧ dSt (dyC D n).1 = dSt D ∧ (dyC D n).2 + sum4 (dLa D) = sum4 (dLa (dyC D n).1)
  | 0, _ => ⟨hr, h, hz, (Int.add_zero _).symm, rfl, Int32.zero_add _⟩
  | n + 1, hn => by
    obtain ⟨a1, a2, a3, a4, a5, a6⟩ := days_r hj h hr hz n (by omega)
    obtain ⟨b1, b2, b3, b4, b5, b6⟩ := day_r hj a2 (by omega) a1
    refine ⟨b1, b2, b3, ?_, b5.trans a5, ?_⟩
    · show (dDy (cwD (dyC D n).1)).toInt = _
      rw [b4, a4]
      omega
    · show (dyC D n).2 + cwL (dyC D n).1 + sum4 (dLa D) = sum4 (dLa (cwD (dyC D n).1))
      rw [← b6, ← a6]
      ac_rfl
def stD (D : gDom) (k : Nat) (v : Int32) : gDom := (dTr D, dG D, dSz D, dC D, upd (dSt D) k v, D.2.2.2.2.2)
theorem i_chg (a v : Int32) : a + (v - a) = v := by rw [Int32.sub_eq_add_neg, Int32.add_comm v, ← Int32.add_assoc, Int32.add_right_neg, Int32.zero_add]
theorem chg_r {j : Nat} {DC D : gDom} (h : DI j D) (hr : DRl DC D) (k : Nat) (v : Int32) : DRl (chgD DC k v) (stD D k v) := by
  obtain ⟨g, rfl, hp, hs⟩ := hr
  have hd := rne_p hp h.rne
  obtain ⟨a1, a2⟩ := arr_n (keyOf_k (upd (dSt D) k v 2)) hd
  refine ⟨arrO (keyOf (upd (dSt D) k v 2)) g (dSz D - 1), ?_, a2.trans hp, a1⟩
  unfold chgD
  show (dTr D, arrO (keyOf (upd (dSt D) k (dSt D k + (v - dSt D k)) 2)) g (dSz D - 1), dSz D, dC D, upd (dSt D) k (dSt D k + (v - dSt D k)), D.2.2.2.2.2) = _
  rw [i_chg]
  rfl
theorem gLo_v (k : Nat) (hk : k < 6) : (gLo k).toInt = (([1, 10, 0, 0, 1, 0] : List Int).getD k 0) ∧ (gHi k).toInt = (([200, 500, 1, 9, 99, 99] : List Int).getD k 0) := by
  obtain rfl | rfl | rfl | rfl | rfl | rfl : k = 0 ∨ k = 1 ∨ k = 2 ∨ k = 3 ∨ k = 4 ∨ k = 5 := by omega
  all_goals exact ⟨rfl, rfl⟩
theorem DI.set {j : Nat} {D : gDom} (h : DI j D) {k : Nat} {v : Int32} (hk : k < 6) (h1 : ¬ v < gLo k) (h2 : ¬ gHi k < v) (h3 : ¬ (k = 5 ∧ v = 1)) : DI j (stD D k v) := by
  obtain ⟨h10, hr, h5, h51, h52, h4, h41, h42, h3', h31⟩ := h.ok
  have hst := h.st
  unfold stE at hst
  have v1 := mt ilt.mpr h1
  have v2 := mt ilt.mpr h2
  obtain ⟨l1, l2⟩ := gLo_v k hk
  rw [l1] at v1
  rw [l2] at v2
  have hv0 : 0 ≤ v.toInt := by
    obtain rfl | rfl | rfl | rfl | rfl | rfl : k = 0 ∨ k = 1 ∨ k = 2 ∨ k = 3 ∨ k = 4 ∨ k = 5 := by omega
    all_goals (simp at v1; omega)
  obtain ⟨e1, e2⟩ := iof hv0
  refine ⟨⟨h10, hr, ?_⟩, ?_, h.tr, h.rw, h.ds, h.nb, h.sh, h.cu, h.la, h.sw, h.co, h.hs, h.cn, h.dn, h.ld, h.dy⟩
  · show stOK (upd (dSt D) k v)
    unfold stOK
    obtain rfl | rfl | rfl | rfl | rfl | rfl : k = 0 ∨ k = 1 ∨ k = 2 ∨ k = 3 ∨ k = 4 ∨ k = 5 := by omega
    · exact ⟨h5, h51, h52, h4, h41, h42, h3', h31⟩
    · exact ⟨h5, h51, h52, h4, h41, h42, h3', h31⟩
    · exact ⟨h5, h51, h52, h4, h41, h42, h3', h31⟩
    · rw [upd_ne _ _ (by omega), upd_ne _ _ (by omega), upd_at]
      simp at v2
      exact ⟨h5, h51, h52, h4, h41, h42, e1, by omega⟩
    · rw [upd_ne _ _ (by omega), upd_at, upd_ne _ _ (by omega)]
      simp at v1 v2
      exact ⟨h5, h51, h52, e1, by omega, by omega, h3', h31⟩
    · rw [upd_at, upd_ne _ _ (by omega), upd_ne _ _ (by omega)]
      simp at v2
      have : ¬ tnx v = 1 := fun q => h3 ⟨rfl, by rw [e1, q]; rfl⟩
      exact ⟨e1, by omega, by omega, h4, h41, h42, h3', h31⟩
  · show stE (upd (dSt D) k v)
    unfold stE
    obtain rfl | rfl | rfl | rfl | rfl | rfl : k = 0 ∨ k = 1 ∨ k = 2 ∨ k = 3 ∨ k = 4 ∨ k = 5 := by omega
    · rw [upd_at, upd_ne _ _ (by omega), upd_ne _ _ (by omega)]
      simp at v1 v2
      omega
    · rw [upd_at, upd_ne _ _ (by omega), upd_ne _ _ (by omega)]
      simp at v1 v2
      omega
    · rw [upd_at, upd_ne _ _ (by omega), upd_ne _ _ (by omega)]
      simp at v1 v2
      omega
    · rw [upd_ne _ _ (by omega), upd_ne _ _ (by omega), upd_ne _ _ (by omega)]
      exact hst
    · rw [upd_ne _ _ (by omega), upd_ne _ _ (by omega), upd_ne _ _ (by omega)]
      exact hst
    · rw [upd_ne _ _ (by omega), upd_ne _ _ (by omega), upd_ne _ _ (by omega)]
      exact hst
theorem DI.mono {j j' : Nat} (hj : j ≤ j') {D : gDom} (h : DI j D) : DI j' D := by
  have hcn := h.cn
  refine ⟨h.ok, h.st, h.tr, h.rw, h.ds, h.nb, h.sh, fun t ht => ?_, h.la, h.sw, h.co, h.hs, ?_, h.dn, h.ld, h.dy⟩
  · have := h.cu t ht
    omega
  · omega
def RelD (j : Nat) (DC D : gDom) : Prop := DRl DC D ∧ DI j D ∧ (∀ p, p < dSz D → ¬ dG D (p * 5 + 2) = 0) ∧ (dDy D).toInt ≤ 9999
theorem RelD.mono {j j' : Nat} (hj : j ≤ j') {DC D : gDom} (h : RelD j DC D) : RelD j' DC D := ⟨h.1, h.2.1.mono hj, h.2.2⟩
/-- the buffer of the text -/
def TxR (T : gTxt) (bf : Nat → Int32) (ty : Nat) : Prop := txOK T ∧ xLen T = ty ∧ ∀ i, i < ty → xCod T i = bf i ∧ 33 ≤ (bf i).toInt ∧ (bf i).toInt ≤ 126
def Rel (j : Nat) (S : gGS) (M : gMo) : Prop := RelD j (sD S) (mD M) ∧ sR S < 6 ∧ sN S = mN M ∧ mN M ≤ 6 ∧ odOK (mOd M) ∧ (∀ k, k < mN M → RelD j (sDs S ((k + sR S) % 6)) (mDs M k)) ∧ TxR (sT S) (mBf M) (mTy M)
theorem Rel.mono {j j' : Nat} (hj : j ≤ j') {S : gGS} {M : gMo} (h : Rel j S M) : Rel j' S M := ⟨h.1.mono hj, h.2.1, h.2.2.1, h.2.2.2.1, h.2.2.2.2.1, fun k hk => (h.2.2.2.2.2.1 k hk).mono hj, h.2.2.2.2.2.2⟩
theorem RelD.dm {j : Nat} {DC D : gDom} (h : RelD j DC D) : dmOK DC ∧ dSz DC = dSz D ∧ dSt DC = dSt D := by
  obtain ⟨⟨g, rfl, hp, -⟩, h2, -, -⟩ := h
  obtain ⟨h10, hr, h5, h51, h52, h4, h41, h42, h3, h31⟩ := h2.ok
  refine ⟨⟨⟨h10, fun p hpn => ?_⟩, h3, h31⟩, rfl, rfl⟩
  obtain ⟨q, hq, e⟩ := rows_of (hp.mem_iff.mp (rows_mem hpn))
  have := (hr q hq).1
  rw [← row_eq.mp e 1 (by omega)] at this
  exact this
theorem Rel.go {j : Nat} {S : gGS} {M : gMo} (h : Rel j S M) : gsOK S := by
  obtain ⟨h1, h2, h3, h4, h5, h6, h7⟩ := h
  obtain ⟨d1, -, -⟩ := h1.dm
  exact ⟨d1.1, d1.2.1, d1.2.2, h2, by rw [h3]; exact h4, h7.1⟩
theorem Rel.scr {j : Nat} {S : gGS} {M : gMo} (h : Rel j S M) (x : Int32) : ∀ od st sp, odOK od → Rel j S (wSp (wSt (wOd (wTh M x) od) st) sp) := fun od st sp ho => ⟨h.1, h.2.1, h.2.2.1, h.2.2.2.1, ho, h.2.2.2.2.2.1, h.2.2.2.2.2.2⟩
/-- a move: what was is saved, on both sides -/
theorem Rel.move {j : Nat} {S : gGS} {M : gMo} (h : Rel j S M) {DC D : gDom} (hd : RelD (j + 1) DC D) : Rel (j + 1) (setD (saveS S) DC) (wN (wDs (wD (wTh M 0) D) (svDs (mN M) (mDs M) (mD M))) (svN (mN M))) := by
  obtain ⟨h1, h2, h3, h4, h5, h6, h7⟩ := h
  refine ⟨hd, ?_, ?_, ?_, h5, fun k hk => ?_, h7⟩
  · show svR (sR S) (sN S) < 6
    unfold svR
    split <;> omega
  · show svN (sN S) = svN (mN M)
    rw [h3]
  · show svN (mN M) ≤ 6
    unfold svN
    split <;> omega
  · have hk' : k < svN (mN M) := hk
    show RelD (j + 1) (updD (sDs S) (svK (sR S) (sN S)) (sD S) ((k + svR (sR S) (sN S)) % 6)) (svDs (mN M) (mDs M) (mD M) k)
    rw [h3]
    unfold svN at hk'
    by_cases hn : mN M < 6
    · rw [if_pos hn] at hk'
      unfold svK svR svDs
      rw [if_pos hn, if_pos hn, if_neg (by omega)]
      unfold updD
      by_cases hkn : k = mN M
      · subst hkn
        rw [if_pos rfl, if_pos rfl]
        exact h1.mono (by omega)
      · rw [if_neg (by omega), if_neg hkn]
        exact (h6 k (by omega)).mono (by omega)
    · rw [if_neg hn] at hk'
      unfold svK svR svDs
      rw [if_neg hn, if_neg hn, if_pos (by omega)]
      unfold updD
      by_cases hkn : k = 5
      · subst hkn
        rw [if_pos (by omega), if_pos rfl]
        exact h1.mono (by omega)
      · rw [if_neg (by omega), if_neg hkn]
        unfold shD
        rw [if_pos (by omega)]
        have := (h6 (k + 1) (by omega)).mono (show j ≤ j + 1 by omega)
        rw [show (k + (sR S + 1) % 6) % 6 = (k + 1 + sR S) % 6 by omega]
        exact this
theorem gXs_d {K : gK} {R : Room} {as : List Value} {h : gH} {V : Option Value} {M' : gMo} (hn : gM K R as h (gD (.inl V) (cMo M'))) (ho : odOK (mOd M')) : gM K R as h (gXs V M') :=
  gM_wk (fun o h' q => ⟨mOd M', mSt M', mSp M', ho, q.1, q.2⟩) hn
theorem upL_0 (o : Nat → Int64) (x : Int64) : vp_updL o 0 x 0 = x := if_pos rfl
theorem pr_ok {Rl : gGS → gMo → Prop} {S S' : gGS} {M M' : gMo} {o : Nat → Int64} {KW KM : gK} {as : List Value} {v : Int32} {R2 : Room} (hR2 : rmL R2) (hS : sR S' < 6) (hw : gM KW { frames := 9, locals := 200, cells := 1, slots := 6 } (.ref 0 :: (as ++ [.ref 89])) (cW S o) (gD (.inl (some (.int 0))) (cW S' (vp_updL o 0 v.toInt64)))) (hn : gM KM R2 (.ref 0 :: as) (cMo M) (gXs (some (.int v)) M')) (ht : mTh M' = 0) (hrel : ∀ od st sp, odOK od → Rl S' (wSp (wSt (wOd M' od) st) sp)) : prP Rl S M o KW KM as :=
  ⟨S', M', _, 0, v, R2, hR2, hS, hw, hn, ht, fun _ => upL_0 _ _, hrel⟩
theorem pr_x {Rl : gGS → gMo → Prop} {S : gGS} {M : gMo} {o : Nat → Int64} {KW KM : gK} {as : List Value} {x : Int32} {R2 : Room} (hx : ¬ x = 0) (hR2 : rmL R2) (hS : sR S < 6) (ho : odOK (mOd M)) (hw : gM KW { frames := 9, locals := 200, cells := 1, slots := 6 } (.ref 0 :: (as ++ [.ref 89])) (cW S o) (gD (.inl (some (.int x))) (cW S o))) (hn : gM KM R2 (.ref 0 :: as) (cMo M) (gD (.inl (some (.int 0))) (cMo (wTh M x)))) (hrel : ∀ od st sp, odOK od → Rl S (wSp (wSt (wOd (wTh M x) od) st) sp)) : prP Rl S M o KW KM as :=
  ⟨S, wTh M x, o, x, 0, R2, hR2, hS, hw, gXs_d hn ho, rfl, fun q => absurd q hx, hrel⟩
