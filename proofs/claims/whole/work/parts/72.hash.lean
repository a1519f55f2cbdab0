/-! THE DIGEST's hashes on both sides, the share's bits left open -/
theorem hfo_c {g g' : Nat → Int32} (h : Int64) : ∀ n : Nat, (∀ j, j < n → g j = g' j) → hfo g h n = hfo g' h n
  | 0, _ => rfl
  | n + 1, hg => by
    show 31 * hfo g h n + (g n).toInt64 = 31 * hfo g' h n + (g' n).toInt64
    rw [hfo_c h n (fun j hj => hg j (by omega)), hg n (by omega)]
theorem hfo_4 (g : Nat → Int32) (h : Int64) (n : Nat) : hfo g h (n + 4) = 31 * (31 * (31 * (31 * hfo g h n + (g n).toInt64) + (g (n + 1)).toInt64) + (g (n + 2)).toInt64) + (g (n + 3)).toInt64 := rfl
theorem hTrs_e (f : Nat → Int32) (h : Int64) : ∀ a, hTrs f h a = hfo f h (a * 4)
  | 0 => rfl
  | a + 1 => by
    have e : (a + 1) * 4 = a * 4 + 4 := by omega
    have e2 : hTrs f h (a + 1) = 31 * (31 * (31 * (31 * hTrs f h a + (f (a * 4 + 0)).toInt64) + (f (a * 4 + 1)).toInt64) + (f (a * 4 + 2)).toInt64) + (f (a * 4 + 3)).toInt64 := rfl
    rw [e, hfo_4, e2, hTrs_e f h a, Nat.add_zero]
theorem cnt_r {j : Nat} {S : gGS} {M : gMo} (h : Rel j S M) {k : Nat} (hk : k < 10) : cntV S k = cvR (mD M) (mN M) k := by
  obtain ⟨g, eg⟩ := h.1.eq
  have htr := h.1.2.1.tr
  have hN := h.2.2.1
  obtain rfl | rfl | rfl | rfl | rfl | rfl | rfl | rfl | rfl | rfl : k = 0 ∨ k = 1 ∨ k = 2 ∨ k = 3 ∨ k = 4 ∨ k = 5 ∨ k = 6 ∨ k = 7 ∨ k = 8 ∨ k = 9 := by omega
  · show dDy (sD S) = dDy (mD M)
    rw [eg]
    rfl
  · show nI (dSz (sD S)) = nI (dSz (mD M))
    rw [eg]
    rfl
  · show dDn (sD S) = dDn (mD M)
    rw [eg]
    rfl
  · show dLt (sD S) = dLt (mD M)
    rw [eg]
    rfl
  · show dLd (sD S) = dLd (mD M)
    rw [eg]
    rfl
  · show nI (mxc (dTr (sD S)) 6) = nI (mxc (dTr (mD M)) 6)
    rw [eg]
    rfl
  · show nI (emc (dTr (sD S)) 6) = nI (emR (dTr (mD M)) 6)
    rw [eg]
    exact congrArg nI (emc_r (by decide) htr.ok 6 (Nat.le_refl 6))
  · show sum4 (dSw (sD S)) = sum4 (dSw (mD M))
    rw [eg]
    rfl
  · show dSo (sD S) = dSo (mD M)
    rw [eg]
    rfl
  · show nI (sN S) = nI (mN M)
    rw [hN]
theorem ton_r {j : Nat} {DC D : gDom} (h : RelD j DC D) {t : Nat} (ht : t < 4) {k : Nat} (hk : k < 7) : tonV DC t k = tvR D t k := by
  have hw := wtc_r h.1 (nI t)
  have htr := h.2.1.tr
  obtain ⟨g, eg⟩ := h.eq
  obtain rfl | rfl | rfl | rfl | rfl | rfl | rfl : k = 0 ∨ k = 1 ∨ k = 2 ∨ k = 3 ∨ k = 4 ∨ k = 5 ∨ k = 6 := by omega
  · rw [tonV_0, eg]
    rfl
  · rw [tonV_1, eg]
    rfl
  · rw [tonV_2, eg]
    exact rdc_r htr.ok ht 6 (Nat.le_refl 6)
  · rw [tonV_3, eg]
    rfl
  · rw [tonV_4, eg]
    rfl
  · rw [tonV_5, eg]
    rfl
  · rw [tonV_6]
    exact hw
theorem hTos_r {j : Nat} {DC D : gDom} (h : RelD j DC D) (h0 : Int64) : ∀ t, t ≤ 4 → hTos DC h0 t = hTs D h0 t
  | 0, _ => rfl
  | t + 1, ht => by
    show 31 * hfo (tonV DC t) (hTos DC h0 t) 7 + (msI DC t).toInt64 = 31 * hfo (tvR D t) (hTs D h0 t) 7 + (lkI D t).toInt64
    rw [hTos_r h h0 t (by omega), ms_r h t, hfo_c _ 7 (fun k hk => ton_r h (show t < 4 by omega) hk)]
theorem fsS_D (S : gGS) : sD (fsS S) = sD S := by
  obtain ⟨T, f, e⟩ := fsR_keep 60 1 (setTrl (setDb S (fil (sDb S) 10)) (sD S))
  have e2 : fsS S = setDb (setTrl (setTrl (setDb S (fil (sDb S) 10)) (sD S)) T) f := e
  rw [e2]
  rfl
theorem hSes_r {j : Nat} (hj : j < 512) {S : gGS} {M : gMo} (h : Rel j S M) (h0 : Int64) : ∀ p, p ≤ dSz (mD M) → hSes (fsS S) h0 p = mxS (mD M) h0 p
  | 0, _ => rfl
  | p + 1, hp => by
    have esz := h.1.dm.2.1
    obtain ⟨⟨-, g2, eg2, hrow⟩, -⟩ := h.1.1.er h.1.2.1
    have hcell : ∀ i, i < 5 → dG (sD S) (p * 5 + i) = dG (mD M) (ord (mD M) p * 5 + i) := fun i hi => by
      rw [eg2]
      exact row_eq.mp (hrow p (by omega)) i hi
    have edy : dDy (sD S) = dDy (mD M) := by rw [eg2]; rfl
    have e : ∀ k, k < 6 → secV (sD S) p k = sVr (mD M) p k := fun k hk => by
      unfold secV sVr
      by_cases h5 : k = 5
      · rw [if_pos h5, if_pos h5, hcell 3 (by omega), edy]
      · rw [if_neg h5, if_neg h5, hcell k (by omega)]
    show 31 * hfo (secV (sD (fsS S)) p) (hSes (fsS S) h0 p) 6 + (sDb (fsS S) p).toInt64 = 31 * hfo (sVr (mD M) p) (mxS (mD M) h0 p) 6 + (dtC (sVr (mD M) p 0) 60 1 (mD M)).toInt64
    rw [hSes_r hj h h0 p (by omega), fsS_r hj h (show p < dSz (sD S) by omega), fsS_D S, hfo_c _ 6 e, ← e 0 (by omega)]
    rfl
theorem ifv_r {j : Nat} (hj : j < 512) {S : gGS} {M : gMo} (h : Rel j S M) {d : Nat} (hd : d ≤ 60) : ifV S d 0 = (dyC (mD M) d).2 ∧ ifV S d 1 = dDn (dyC (mD M) d).1 - dDn (mD M) ∧ ifV S d 2 = dLd (dyC (mD M) d).1 - dLd (mD M) ∧ ifV S d 3 = sum4 (dSw (dyC (mD M) d).1) - sum4 (dSw (mD M)) := by
  obtain ⟨g, eg⟩ := h.1.eq
  obtain ⟨g2, eg2, d6⟩ := try_r hj h.1 d hd
  refine ⟨?_, ?_, ?_, ?_⟩
  · rw [← ifV_0, eg2, eg]
    exact i_back d6
  · rw [← ifV_1, eg2, eg]
    rfl
  · rw [← ifV_2, eg2, eg]
    rfl
  · rw [← ifV_3, eg2, eg]
    rfl
theorem dgI_r {j : Nat} (hj : j < 512) {S : gGS} {M : gMo} (h : Rel j S M) {d : Nat} (hd : d ≤ 60) (x : Int64) : dgI d S x = 31 * (31 * (31 * (31 * x + ((dyC (mD M) d).2).toInt64) + (dDn (dyC (mD M) d).1 - dDn (mD M)).toInt64) + (dLd (dyC (mD M) d).1 - dLd (mD M)).toInt64) + (sum4 (dSw (dyC (mD M) d).1) - sum4 (dSw (mD M))).toInt64 := by
  have r1 : Rel j (q5 d S) M := h.tr d _
  have r2 : Rel j (q5 d (q5 d S)) M := r1.tr d _
  have r3 : Rel j (q5 d (q5 d (q5 d S))) M := r2.tr d _
  have a0 := (ifv_r hj h hd).1
  have a1 := (ifv_r hj r1 hd).2.1
  have a2 := (ifv_r hj r2 hd).2.2.1
  have a3 := (ifv_r hj r3 hd).2.2.2
  unfold dgI
  rw [a0, a1, a2, a3]
theorem tx_r {T : gTxt} {bf : Nat → Int32} {ty : Nat} (h : TxR T bf ty) (x : Int64) : hTx T x = vI bf ty x := by
  obtain ⟨-, h2, h3⟩ := h
  unfold hTx vI
  rw [h2]
  exact hfo_c _ ty (fun i hi => (h3 i hi).1)
theorem dgE_r {j : Nat} {S : gGS} {M : gMo} (h : Rel j S M) {N : Nat} (hb : bitV (lshV (sD S)) = brV N (shV (mD M))) (x : Int64) : dgE S x = vH N (mD M) (mBf M) (mTy M) x := by
  unfold dgE vH
  rw [hb]
  exact tx_r h.2.2.2.2.2.2 _
theorem dgF_r {j : Nat} (hj : j < 512) {S : gGS} {M : gMo} (h : Rel j S M) {e : Nat} (he : e ≤ 30) {N : Nat} (hb : bitV (lshV (sD S)) = brV N (shV (mD M))) (x : Int64) : dgF e S x = vG N e (mD M) (mBf M) (mTy M) x := by
  have hbo : boI S e = bfI (mD M) e := best_r hj h.1 e he
  have hr : Rel j (ptS S e 1) M := h.tr e 1
  have hb2 := ptS_lk (P := fun D => bitV (lshV D) = brV N (shV (mD M))) hb e 1
  unfold dgF vG
  rw [hbo]
  exact dgE_r hr hb2 _
theorem q5_4 {j : Nat} {S : gGS} {M : gMo} (h : Rel j S M) (d : Nat) : Rel j (q5 d (q5 d (q5 d (q5 d S)))) M := by
  have r1 : Rel j (q5 d S) M := h.tr d _
  have r2 : Rel j (q5 d (q5 d S)) M := r1.tr d _
  have r3 : Rel j (q5 d (q5 d (q5 d S))) M := r2.tr d _
  exact r3.tr d _
theorem q5_4P {P : gDom → Prop} {S : gGS} (h : P (sD S)) (d : Nat) : P (sD (q5 d (q5 d (q5 d (q5 d S))))) := q5_lk (P := P) (q5_lk (P := P) (q5_lk (P := P) (q5_lk (P := P) h)))
/-- from the tones on -/
theorem dgT_r {j : Nat} {S : gGS} {M : gMo} (h : Rel j S M) (x : Int64) : dgT S x = 31 * hTs (mD M) x 4 + (nI (tkN (tnx (dSt (mD M) 5)) 100)).toInt64 := by
  obtain ⟨-, -, h5, h51, h52, -⟩ := h.1.2.1.ok
  have est := h.1.dm.2.2
  unfold dgT
  rw [hTos_r h.1 x 4 (Nat.le_refl 4), est, tkn_n (y := 100) (c := 100) h5 h51 h52 rfl (by decide) (by decide)]
theorem dgC_r {j : Nat} (hj : j < 512) {S : gGS} {M : gMo} (h : Rel j S M) (h0 : Int64) (hh : h0 = 3023) : dgC S = mxS (mD M) (hfo (dTr (mD M)) (hfo (dSt (mD M)) (hfo (cvR (mD M) (mN M)) h0 10) 6) 24) (dSz (mD M)) := by
  obtain ⟨g, eg⟩ := h.1.eq
  have esz := h.1.dm.2.1
  have est := h.1.dm.2.2
  have eTr : dTr (sD S) = dTr (mD M) := by rw [eg]; rfl
  have eA : dgA S = hfo (cvR (mD M) (mN M)) h0 10 := by
    unfold dgA
    rw [← hh]
    exact hfo_c _ 10 (fun k hk => cnt_r h hk)
  have eB : dgB S = hfo (dSt (mD M)) (hfo (cvR (mD M) (mN M)) h0 10) 6 := by
    unfold dgB
    rw [eA, est]
  unfold dgC
  rw [eB, esz, hSes_r hj h _ _ (Nat.le_refl _), hTrs_e, eTr]
/-- the digest's value, if the shares' bits are the same -/
theorem dg_r {j : Nat} (hj : j < 512) {S : gGS} {M : gMo} (h : Rel j S M) {d e : Nat} (hd : d ≤ 60) (he : e ≤ 30) {N : Nat} (hb : bitV (lshV (sD S)) = brV N (shV (mD M))) (h0 : Int64) (hh : h0 = 3023) : dgV d e S = vA N d e (mD M) (mN M) (mBf M) (mTy M) h0 := by
  have hf := h.fs
  have hb1 : bitV (lshV (sD (fsS S))) = brV N (shV (mD M)) := by rw [fsS_D]; exact hb
  have hb2 := q5_4P (P := fun D => bitV (lshV D) = brV N (shV (mD M))) hb1 d
  unfold dgV
  rw [dgF_r hj (q5_4 hf d) he hb2, dgI_r hj hf hd, dgT_r hf, dgC_r hj h h0 hh]
  unfold vA vB vC vD vE vF vF0 vF1 vF2 vF3
  rfl
