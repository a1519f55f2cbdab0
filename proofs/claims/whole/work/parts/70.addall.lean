/-! addAll on both sides -/
theorem adds_r {j : Nat} (hj : j < 512) {DC D : gDom} (h : RelD (j + 1) DC D) {T : gTxt} {pa : Nat → Int32} {n : Nat} (hpa : PA T pa n) (hc : (dC D).toInt ≤ 10 * j) (hn : dSz D + n ≤ 10) : ∀ i, i ≤ n → RelD (j + 1) (aaD DC T i) (aaR D pa i) ∧ (dC (aaR D pa i)).toInt = (dC D).toInt + i
  | 0, _ => ⟨h, (Int.add_zero _).symm⟩
  | i + 1, hi => by
    obtain ⟨h1, h2⟩ := adds_r hj h hpa hc hn i (by omega)
    obtain ⟨k, m, d, hk, m1, m5, d9, e1, e2, e3, e4, e5, e6⟩ := hpa i (by omega)
    have hsz := aaR_sz D pa i
    have b1 : ¬ nI m < 1 := mt (c_lt (n := 1) (by omega) (by omega)).mp (by omega)
    have b2 : ¬ 500 < nI m := mt (c_lt (k := 500) (by omega) (by omega)).mp (by omega)
    have b3 : ¬ nI d < 0 := mt (c_lt (n := 0) (by omega) (by omega)).mp (by omega)
    have b4 : ¬ 999 < nI d := mt (c_lt (k := 999) (by omega) (by omega)).mp (by omega)
    have ha := h1.ad (Nat.le_refl (j + 1)) hk b1 b2 b3 b4 (by omega) (by rw [h2]; omega) (by omega)
    have eC : aaD DC T (i + 1) = addD (aaD DC T i) (nI k) (nI m) (nI d) := by
      show addD (aaD DC T i) (xTon T i) (xCub T i) (xDay T i) = _
      rw [e1, e3, e5]
    have eR : aaR D pa (i + 1) = adR (aaR D pa i) (nI k) (nI m) (nI d) := by
      show adR (aaR D pa i) (pa (3 * i + 1)) (pa (3 * i)) (pa (3 * i + 2)) = _
      rw [e2, e4, e6]
    have hcn := h1.2.1.cn
    rw [eC, eR]
    refine ⟨ha, ?_⟩
    show (dC (aaR D pa i) + 1).toInt = _
    rw [ia (by rw [i1]; omega) (by rw [i1]; omega), i1, h2]
    omega
theorem rsT_o {T : gTxt} (h : txOK T) : txOK (rsT T).2 ∧ xLen (rsT T).2 = xLen T ∧ xCod (rsT T).2 = xCod T := by
  obtain ⟨r1, r2, r3, -⟩ := rdT_ok h
  have e : rsT T = if (rdT T).1 < xLen T then (false, (rdT T).2) else if xStg (rdT T).2 = 4 then (true, kp (rdT T).2) else (false, (rdT T).2) := rfl
  rw [e]
  clear e
  generalize rdT T = x at r1 r2 r3 ⊢
  split
  · exact ⟨r1, r2, r3⟩
  · split
    · obtain ⟨k1, k2, k3⟩ := kp_ok r1
      exact ⟨k1, k2.trans r2, k3.trans r3⟩
    · exact ⟨r1, r2, r3⟩
theorem c_addAll (j : Nat) (S : gGS) (M : gMo) (o : Nat → Int64) (hj : j < 512) (h : Rel j S M) : prP (Rel (j + 1)) S M o K_Lw_addAll K_Mo_addAll [] := by
  have hok := h.go
  have hr := h.2.1
  have hn := h.2.2.2.1
  have ho := h.2.2.2.2.1
  have hm := h.mono (Nat.le_succ j)
  have hT := h.2.2.2.2.2.2
  have esz := h.1.dm.2.1
  obtain ⟨r1, r2, r3⟩ := rsT_o hT.1
  have h60 : mTy M ≤ 60 := by
    have := hT.1.1
    have := hT.2.1
    omega
  obtain ⟨r, hR⟩ : ∃ r, rbT (mBf M) (mTy M) (mPa M) = r := ⟨_, rfl⟩
  have ht := text_r hT (mPa M) r hR
  have hTx := hT.rd r1 r2 r3
  have hS : Rel (j + 1) (rsS S) M := ⟨hm.1, hm.2.1, hm.2.2.1, hm.2.2.2.1, ho, hm.2.2.2.2.2.1, hTx⟩
  have es : sT (rsS S) = (rsT (sT S)).2 := rfl
  rcases ht with ⟨e1, -, e3⟩ | ⟨e1, -, e3, e4, e5⟩
  · have hrel : Rel (j + 1) (rsS S) (wWr (wSpt (wPm (wPa (wTh M 1) r.2.2.2) r.1) r.2.1) r.2.2.1) := ⟨hm.1, hm.2.1, hm.2.2.1, hm.2.2.2.1, ho, hm.2.2.2.2.2.1, hTx⟩
    exact ⟨rsS S, wWr (wSpt (wPm (wPa (wTh M 1) r.2.2.2) r.1) r.2.1) r.2.2.1, o, 1, 0, _, by decide, hS.2.1, w_addAll_x1 S (rsS S) o (by decide) hr hS.2.1 (m_addAll_x1 S hok e3), gXs_d (n_addAll_x1 M r hR h60 e1) ho, rfl, fun q => absurd q (by decide), fun od st sp ho2 => ⟨hrel.1, hrel.2.1, hrel.2.2.1, hrel.2.2.2.1, ho2, hrel.2.2.2.2.2.1, hTx⟩⟩
  · by_cases h2 : dSz (mD M) + r.1 ≤ 10
    · have hcn := h.1.2.1.cn
      obtain ⟨a1, -⟩ := adds_r hj hm.1 e5 hcn.2 h2 r.1 (Nat.le_refl _)
      have hmm := m_addAll S hok e3 (by rw [es, e4, esz]; exact h2)
      rw [es, e4] at hmm
      have hdd : RelD (j + 1) (aaD (sD (rsS S)) (rsT (sT S)).2 r.1) (aaR (mD M) r.2.2.2 r.1) := a1
      rw [hdd.dm.2.1] at hmm
      have eaa : aaS (rsS S) = setT (setD (saveS (rsS S)) (aaD (sD (rsS S)) (rsT (sT S)).2 r.1)) (erT (rsT (sT S)).2) := by
        unfold aaS
        rw [es, e4]
      rw [eaa] at hmm
      have hmv := Rel.move (S := rsS S) (M := M) (j := j) ⟨h.1, h.2.1, h.2.2.1, h.2.2.2.1, ho, h.2.2.2.2.2.1, hTx⟩ hdd
      have hrel : Rel (j + 1) (setT (setD (saveS (rsS S)) (aaD (sD (rsS S)) (rsT (sT S)).2 r.1)) (erT (rsT (sT S)).2)) (wWr (wSpt (wPm (wPa (wTy (wN (wDs (wD (wTh M 0) (aaR (mD M) r.2.2.2 r.1)) (svDs (mN M) (mDs M) (mD M))) (svN (mN M))) 0) r.2.2.2) r.1) r.2.1) r.2.2.1) := ⟨hmv.1, hmv.2.1, hmv.2.2.1, hmv.2.2.2.1, ho, hmv.2.2.2.2.2.1, hTx.er⟩
      exact pr_ok (by decide) hrel.2.1 (w_addAll S _ o (by decide) hr hrel.2.1 _ hmm) (gXs_d (n_addAll M r hR h60 hn e1 h2) ho) rfl (hrel.scr 0)
    · have hrel : Rel (j + 1) (rsS S) (wWr (wSpt (wPm (wPa (wTh M 2) r.2.2.2) r.1) r.2.1) r.2.2.1) := ⟨hm.1, hm.2.1, hm.2.2.1, hm.2.2.2.1, ho, hm.2.2.2.2.2.1, hTx⟩
      exact ⟨rsS S, wWr (wSpt (wPm (wPa (wTh M 2) r.2.2.2) r.1) r.2.1) r.2.2.1, o, 2, 0, _, by decide, hS.2.1, w_addAll_x2 S (rsS S) o (by decide) hr hS.2.1 (m_addAll_x2 S hok e3 (by rw [es, e4, esz]; exact h2)), gXs_d (n_addAll_x2 M r hR h60 h.1.2.1.ok.1 e1 h2) ho, rfl, fun q => absurd q (by decide), fun od st sp ho2 => ⟨hrel.1, hrel.2.1, hrel.2.2.1, hrel.2.2.2.1, ho2, hrel.2.2.2.2.2.1, hTx⟩⟩
