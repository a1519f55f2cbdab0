/-! THE REFERENCE's methods, first part. Printed by wip/whole/meths13.py -/
theorem i4_3 {x : Int32} (h : 4 ≤ x) : 3 < x := Int32.lt_of_lt_of_le (by decide) h
theorem i6_5 {x : Int32} (h : 6 ≤ x) : 5 < x := Int32.lt_of_lt_of_le (by decide) h
theorem n_thrown (M : gMo)  : gM K_Mo_thrown { frames := 0, locals := 0, cells := 0, slots := 0 } [.ref 0] (cMo M) (gD (.inl (some (.int (mTh M)))) (cMo M)) := by
  refine gM_of rfl rfl (Nat.le_of_ble_eq_true rfl) (fun sc => ?_)
  refine gW_b D_Mo_thrown 0 2 (pc' := 4) (l' := [(0, .ref 0)]) (st' := [.int (mTh M)]) (h' := cMo M) (P := True) rfl trivial ?_
  exact gW_iret (gdec_at D_Mo_thrown 2 rfl) rfl rfl (Nat.le_of_ble_eq_true rfl) ⟨rfl, rfl⟩ (Nat.le_of_ble_eq_true rfl) (Nat.le_of_ble_eq_true rfl)
theorem n_in_t (v a b : Int32) (h1 : ¬ v < a) (h2 : ¬ b < v) : gM K_Mo_in { frames := 0, locals := 0, cells := 0, slots := 0 } [.int v, .int a, .int b] ([]) (gD (.inl (some (.int 1))) ([])) := by
  refine gM_of rfl rfl (Nat.le_of_ble_eq_true rfl) (fun sc => ?_)
  refine gW_b D_Mo_in 0 2 (pc' := 2) (l' := [(0, .int v), (1, .int a), (2, .int b)]) (st' := [.int a, .int v]) (h' := []) (P := True) rfl trivial ?_
  refine gW_ic_lt (gdec_at D_Mo_in 2 rfl) (tgt := 14) rfl (fun cq => absurd cq h1) (fun _ => ?_)
  refine gW_b D_Mo_in 3 2 (pc' := 7) (l' := [(0, .int v), (1, .int a), (2, .int b)]) (st' := [.int b, .int v]) (h' := []) (P := True) rfl trivial ?_
  refine gW_ic_gt (gdec_at D_Mo_in 5 rfl) (tgt := 14) rfl (fun cq => absurd cq h2) (fun _ => ?_)
  refine gW_b D_Mo_in 6 2 (pc' := 15) (l' := [(0, .int v), (1, .int a), (2, .int b)]) (st' := [.int 1]) (h' := []) (P := True) rfl trivial ?_
  exact gW_iret (gdec_at D_Mo_in 9 rfl) rfl rfl (Nat.le_of_ble_eq_true rfl) ⟨rfl, rfl⟩ (Nat.le_of_ble_eq_true rfl) (Nat.le_of_ble_eq_true rfl)
theorem n_in_f (v a b : Int32) (h : v < a ∨ b < v) : gM K_Mo_in { frames := 0, locals := 0, cells := 0, slots := 0 } [.int v, .int a, .int b] ([]) (gD (.inl (some (.int 0))) ([])) := by
  refine gM_of rfl rfl (Nat.le_of_ble_eq_true rfl) (fun sc => ?_)
  refine gW_b D_Mo_in 0 2 (pc' := 2) (l' := [(0, .int v), (1, .int a), (2, .int b)]) (st' := [.int a, .int v]) (h' := []) (P := True) rfl trivial ?_
  refine gW_ic_lt (gdec_at D_Mo_in 2 rfl) (tgt := 14) rfl (fun c0 => ?_) (fun c0 => ?_)
  · skip
    refine gW_b D_Mo_in 8 1 (pc' := 15) (l' := [(0, .int v), (1, .int a), (2, .int b)]) (st' := [.int 0]) (h' := []) (P := True) rfl trivial ?_
    exact gW_iret (gdec_at D_Mo_in 9 rfl) rfl rfl (Nat.le_of_ble_eq_true rfl) ⟨rfl, rfl⟩ (Nat.le_of_ble_eq_true rfl) (Nat.le_of_ble_eq_true rfl)
  · skip
    refine gW_b D_Mo_in 3 2 (pc' := 7) (l' := [(0, .int v), (1, .int a), (2, .int b)]) (st' := [.int b, .int v]) (h' := []) (P := True) rfl trivial ?_
    refine gW_ic_gt (gdec_at D_Mo_in 5 rfl) (tgt := 14) rfl (fun _ => ?_) (fun cq => absurd (h.resolve_left c0) cq)
    refine gW_b D_Mo_in 8 1 (pc' := 15) (l' := [(0, .int v), (1, .int a), (2, .int b)]) (st' := [.int 0]) (h' := []) (P := True) rfl trivial ?_
    exact gW_iret (gdec_at D_Mo_in 9 rfl) rfl rfl (Nat.le_of_ble_eq_true rfl) ⟨rfl, rfl⟩ (Nat.le_of_ble_eq_true rfl) (Nat.le_of_ble_eq_true rfl)
theorem n_isTone_t (t : Nat) (ht : t < 4) : gM K_Mo_isTone { frames := 1, locals := 22, cells := 0, slots := 0 } [.int (nI t)] ([]) (gD (.inl (some (.int 1))) ([])) := by
  refine gM_of rfl rfl (Nat.le_of_ble_eq_true rfl) (fun sc => ?_)
  refine gW_b D_Mo_isTone 0 3 (pc' := 3) (l' := [(0, .int (nI t))]) (st' := [.int 3, .int 0, .int (nI t)]) (h' := []) (P := True) rfl trivial ?_
  refine gW_callS (n_in_t (nI t) 0 3 (mt (glt (rfl : nI t = nI t) (gk 0) (by omega) (by omega)).mp (by omega)) (mt (glt (gk 3) (rfl : nI t = nI t) (by omega) (by omega)).mp (by omega))) lk_Mo_32 [] (gdec_at D_Mo_isTone 3 rfl) (st := []) rfl rfl ⟨rfl, rfl⟩ (Nat.le_of_ble_eq_true rfl) (Nat.le_of_ble_eq_true rfl) ⟨Nat.le_of_ble_eq_true rfl, Nat.le_of_ble_eq_true rfl⟩ ⟨Nat.le_of_ble_eq_true rfl, Nat.le_of_ble_eq_true rfl⟩ (gAft_r rfl rfl (h' := []) (st' := [.int 1]) (pc' := 6) (cs' := 0) (ss' := 0) rfl rfl rfl rfl rfl ?_)
  exact gW_iret (gdec_at D_Mo_isTone 4 rfl) rfl rfl (Nat.le_of_ble_eq_true rfl) ⟨rfl, rfl⟩ (Nat.le_of_ble_eq_true rfl) (Nat.le_of_ble_eq_true rfl)
theorem n_isTone_f (x : Int32) (h : x < 0 ∨ 4 ≤ x) : gM K_Mo_isTone { frames := 1, locals := 22, cells := 0, slots := 0 } [.int x] ([]) (gD (.inl (some (.int 0))) ([])) := by
  refine gM_of rfl rfl (Nat.le_of_ble_eq_true rfl) (fun sc => ?_)
  refine gW_b D_Mo_isTone 0 3 (pc' := 3) (l' := [(0, .int x)]) (st' := [.int 3, .int 0, .int x]) (h' := []) (P := True) rfl trivial ?_
  refine gW_callS (n_in_f x 0 3 (h.elim Or.inl fun z => Or.inr (i4_3 z))) lk_Mo_32 [] (gdec_at D_Mo_isTone 3 rfl) (st := []) rfl rfl ⟨rfl, rfl⟩ (Nat.le_of_ble_eq_true rfl) (Nat.le_of_ble_eq_true rfl) ⟨Nat.le_of_ble_eq_true rfl, Nat.le_of_ble_eq_true rfl⟩ ⟨Nat.le_of_ble_eq_true rfl, Nat.le_of_ble_eq_true rfl⟩ (gAft_r rfl rfl (h' := []) (st' := [.int 0]) (pc' := 6) (cs' := 0) (ss' := 0) rfl rfl rfl rfl rfl ?_)
  exact gW_iret (gdec_at D_Mo_isTone 4 rfl) rfl rfl (Nat.le_of_ble_eq_true rfl) ⟨rfl, rfl⟩ (Nat.le_of_ble_eq_true rfl) (Nat.le_of_ble_eq_true rfl)
theorem n_isTray_t (t : Nat) (ht : t < 6) : gM K_Mo_isTray { frames := 1, locals := 22, cells := 0, slots := 0 } [.int (nI t)] ([]) (gD (.inl (some (.int 1))) ([])) := by
  refine gM_of rfl rfl (Nat.le_of_ble_eq_true rfl) (fun sc => ?_)
  refine gW_b D_Mo_isTray 0 3 (pc' := 3) (l' := [(0, .int (nI t))]) (st' := [.int 5, .int 0, .int (nI t)]) (h' := []) (P := True) rfl trivial ?_
  refine gW_callS (n_in_t (nI t) 0 5 (mt (glt (rfl : nI t = nI t) (gk 0) (by omega) (by omega)).mp (by omega)) (mt (glt (gk 5) (rfl : nI t = nI t) (by omega) (by omega)).mp (by omega))) lk_Mo_32 [] (gdec_at D_Mo_isTray 3 rfl) (st := []) rfl rfl ⟨rfl, rfl⟩ (Nat.le_of_ble_eq_true rfl) (Nat.le_of_ble_eq_true rfl) ⟨Nat.le_of_ble_eq_true rfl, Nat.le_of_ble_eq_true rfl⟩ ⟨Nat.le_of_ble_eq_true rfl, Nat.le_of_ble_eq_true rfl⟩ (gAft_r rfl rfl (h' := []) (st' := [.int 1]) (pc' := 6) (cs' := 0) (ss' := 0) rfl rfl rfl rfl rfl ?_)
  exact gW_iret (gdec_at D_Mo_isTray 4 rfl) rfl rfl (Nat.le_of_ble_eq_true rfl) ⟨rfl, rfl⟩ (Nat.le_of_ble_eq_true rfl) (Nat.le_of_ble_eq_true rfl)
theorem n_isTray_f (x : Int32) (h : x < 0 ∨ 6 ≤ x) : gM K_Mo_isTray { frames := 1, locals := 22, cells := 0, slots := 0 } [.int x] ([]) (gD (.inl (some (.int 0))) ([])) := by
  refine gM_of rfl rfl (Nat.le_of_ble_eq_true rfl) (fun sc => ?_)
  refine gW_b D_Mo_isTray 0 3 (pc' := 3) (l' := [(0, .int x)]) (st' := [.int 5, .int 0, .int x]) (h' := []) (P := True) rfl trivial ?_
  refine gW_callS (n_in_f x 0 5 (h.elim Or.inl fun z => Or.inr (i6_5 z))) lk_Mo_32 [] (gdec_at D_Mo_isTray 3 rfl) (st := []) rfl rfl ⟨rfl, rfl⟩ (Nat.le_of_ble_eq_true rfl) (Nat.le_of_ble_eq_true rfl) ⟨Nat.le_of_ble_eq_true rfl, Nat.le_of_ble_eq_true rfl⟩ ⟨Nat.le_of_ble_eq_true rfl, Nat.le_of_ble_eq_true rfl⟩ (gAft_r rfl rfl (h' := []) (st' := [.int 0]) (pc' := 6) (cs' := 0) (ss' := 0) rfl rfl rfl rfl rfl ?_)
  exact gW_iret (gdec_at D_Mo_isTray 4 rfl) rfl rfl (Nat.le_of_ble_eq_true rfl) ⟨rfl, rfl⟩ (Nat.le_of_ble_eq_true rfl) (Nat.le_of_ble_eq_true rfl)
theorem n_cubes (M : gMo) (a t : Nat) (ha : a < 6) (ht : t < 4) : gM K_Mo_cubes { frames := 0, locals := 0, cells := 0, slots := 0 } [.ref 0, .int (nI a), .int (nI t)] (cMo M) (gD (.inl (some (.int (dTr (mD M) (a * 4 + t))))) (cMo M)) := by
  refine gM_of rfl rfl (Nat.le_of_ble_eq_true rfl) (fun sc => ?_)
  refine gW_b D_Mo_cubes 0 10 (pc' := 12) (l' := [(0, .ref 0), (1, .int (nI a)), (2, .int (nI t))]) (st' := [.int (zD (mD M) ((4 + (4 * (nI a))) + (nI t)).toNatClampNeg)]) (h' := cMo M) (P := vp_in ((4 + (4 * (nI a))) + (nI t)) 103 ∧ True) rfl ⟨(gvin (gadd (gadd (gk 4) (gmul (gk 4) (rfl : nI a = nI a))) (rfl : nI t = nI t)) (by omega) (by omega)), trivial⟩ ?_
  rw [show ((4 + (4 * (nI a))) + (nI t)).toNatClampNeg = ((4 + (4 * a)) + t) from gclp (gadd (gadd (gk 4) (gmul (gk 4) (rfl : nI a = nI a))) (rfl : nI t = nI t)) (by omega)]
  rw [show (zD (mD M) ((4 + (4 * a)) + t) : Int32) = (dTr (mD M)) (a * 4 + t) from zr_tr (mD M) a t (by omega) (by omega)]
  exact gW_iret (gdec_at D_Mo_cubes 10 rfl) rfl rfl (Nat.le_of_ble_eq_true rfl) ⟨rfl, rfl⟩ (Nat.le_of_ble_eq_true rfl) (Nat.le_of_ble_eq_true rfl)
theorem n_its (M : gMo) (s k : Nat) (hs : s < 10) (hk : k < 5) : gM K_Mo_its { frames := 0, locals := 0, cells := 0, slots := 0 } [.ref 0, .int (nI s), .int (nI k)] (cMo M) (gD (.inl (some (.int (dG (mD M) (s * 5 + k))))) (cMo M)) := by
  refine gM_of rfl rfl (Nat.le_of_ble_eq_true rfl) (fun sc => ?_)
  refine gW_b D_Mo_its 0 10 (pc' := 13) (l' := [(0, .ref 0), (1, .int (nI s)), (2, .int (nI k))]) (st' := [.int (zD (mD M) ((53 + (5 * (nI s))) + (nI k)).toNatClampNeg)]) (h' := cMo M) (P := vp_in ((53 + (5 * (nI s))) + (nI k)) 103 ∧ True) rfl ⟨(gvin (gadd (gadd (gk 53) (gmul (gk 5) (rfl : nI s = nI s))) (rfl : nI k = nI k)) (by omega) (by omega)), trivial⟩ ?_
  rw [show ((53 + (5 * (nI s))) + (nI k)).toNatClampNeg = ((53 + (5 * s)) + k) from gclp (gadd (gadd (gk 53) (gmul (gk 5) (rfl : nI s = nI s))) (rfl : nI k = nI k)) (by omega)]
  rw [show (zD (mD M) ((53 + (5 * s)) + k) : Int32) = (dG (mD M)) (s * 5 + k) from zr_g (mD M) s k (by omega) (by omega)]
  exact gW_iret (gdec_at D_Mo_its 10 rfl) rfl rfl (Nat.le_of_ble_eq_true rfl) ⟨rfl, rfl⟩ (Nat.le_of_ble_eq_true rfl) (Nat.le_of_ble_eq_true rfl)
theorem n_lay (M : gMo) (s k : Nat) (v : Int32) (hs : s < 10) (hk : k < 5) : gM K_Mo_lay { frames := 0, locals := 0, cells := 0, slots := 0 } [.ref 0, .int (nI s), .int (nI k), .int v] (cMo M) (gD (.inl none) (cMo (wD M (dTr (mD M), upd (dG (mD M)) (s * 5 + k) v, dSz (mD M), dC (mD M), dSt (mD M), dSh (mD M), dCu (mD M), dLa (mD M), dSw (mD M), dDy (mD M), dDn (mD M), dLt (mD M), dLd (mD M), dSo (mD M))))) := by
  refine gM_of rfl rfl (Nat.le_of_ble_eq_true rfl) (fun sc => ?_)
  refine gW_b D_Mo_lay 0 11 (pc' := 14) (l' := [(0, .ref 0), (1, .int (nI s)), (2, .int (nI k)), (3, .int v)]) (st' := []) (h' := [cO 6 [.int (mTh M), .ref 1, .ref 2, .int (nI (mN M)), .ref 3, .ref 4, .int (nI (mTy M)), .ref 5, .int (nI (mSt M)), .ref 6, .int (nI (mPm M)), .int (nI (mSpt M)), .int (mWr M), .long (mHs M)], cI 103 (upd (zD (mD M)) (((53 + (5 * (nI s))) + (nI k)).toNatClampNeg) v), cI 618 (svF (mDs M)), cI 103 (zD (mSp M)), cI 60 (mBf M), cI 10 (oF (mOd M)), cI 39 (mPa M)]) (P := vp_in ((53 + (5 * (nI s))) + (nI k)) 103 ∧ True) rfl ⟨(gvin (gadd (gadd (gk 53) (gmul (gk 5) (rfl : nI s = nI s))) (rfl : nI k = nI k)) (by omega) (by omega)), trivial⟩ ?_
  rw [show ((53 + (5 * (nI s))) + (nI k)).toNatClampNeg = ((53 + (5 * s)) + k) from gclp (gadd (gadd (gk 53) (gmul (gk 5) (rfl : nI s = nI s))) (rfl : nI k = nI k)) (by omega)]
  rw [show upd (zD (mD M)) ((53 + (5 * s)) + k) v = zD (dTr (mD M), upd (dG (mD M)) (s * 5 + k) v, dSz (mD M), dC (mD M), dSt (mD M), dSh (mD M), dCu (mD M), dLa (mD M), dSw (mD M), dDy (mD M), dDn (mD M), dLt (mD M), dLd (mD M), dSo (mD M)) from zu_g (mD M) s k (by omega) (by omega) v]
  exact gW_vret (gdec_at D_Mo_lay 11 rfl) rfl (Nat.le_of_ble_eq_true rfl) ⟨rfl, rfl⟩ (Nat.le_of_ble_eq_true rfl) (Nat.le_of_ble_eq_true rfl)
def svDs (n : Nat) (Ds : Nat → gDom) (D : gDom) : Nat → gDom := if n = 6 then updD (shD Ds) 5 D else updD Ds n D
theorem l_save1 (M : gMo) {sc : Nat × (Nat → Int32)} {n0 : Nat} {E : gO → gH → Prop} (kk : gW K_Mo_save sc { frames := 0, locals := 0, cells := 0, slots := 0 } n0 E 0 0 39 [(0, .ref 0), (1, .int (nI 515))] [] ([cO 6 [.int (mTh M), .ref 1, .ref 2, .int (nI (mN M)), .ref 3, .ref 4, .int (nI (mTy M)), .ref 5, .int (nI (mSt M)), .ref 6, .int (nI (mPm M)), .int (nI (mSpt M)), .int (mWr M), .long (mHs M)], cI 103 (zD (mD M)), cI 618 (shF (svF (mDs M)) 515), cI 103 (zD (mSp M)), cI 60 (mBf M), cI 10 (oF (mOd M)), cI 39 (mPa M)])) : ∀ (n i : Nat), i + n = 515 → gW K_Mo_save sc { frames := 0, locals := 0, cells := 0, slots := 0 } n0 E 0 0 11 [(0, .ref 0), (1, .int (nI i))] [] ([cO 6 [.int (mTh M), .ref 1, .ref 2, .int (nI (mN M)), .ref 3, .ref 4, .int (nI (mTy M)), .ref 5, .int (nI (mSt M)), .ref 6, .int (nI (mPm M)), .int (nI (mSpt M)), .int (mWr M), .long (mHs M)], cI 103 (zD (mD M)), cI 618 (shF (svF (mDs M)) i), cI 103 (zD (mSp M)), cI 60 (mBf M), cI 10 (oF (mOd M)), cI 39 (mPa M)]) := by
  intro n
  induction n with
  | zero =>
    intro i hi
    obtain rfl : 515 = i := by omega
    refine gW_b D_Mo_save 6 2 (pc' := 15) (l' := [(0, .ref 0), (1, .int (nI 515))]) (st' := [.int 515, .int (nI 515)]) (h' := [cO 6 [.int (mTh M), .ref 1, .ref 2, .int (nI (mN M)), .ref 3, .ref 4, .int (nI (mTy M)), .ref 5, .int (nI (mSt M)), .ref 6, .int (nI (mPm M)), .int (nI (mSpt M)), .int (mWr M), .long (mHs M)], cI 103 (zD (mD M)), cI 618 (shF (svF (mDs M)) 515), cI 103 (zD (mSp M)), cI 60 (mBf M), cI 10 (oF (mOd M)), cI 39 (mPa M)]) (P := True) rfl trivial ?_
    refine gW_ic_ge (gdec_at D_Mo_save 8 rfl) (tgt := 39) rfl (fun _ => ?_) (fun cq => absurd ((gle (gk 515) (rfl : nI 515 = nI 515) (by omega) (by omega)).mpr (by omega)) cq)
    exact kk
  | succ n ih =>
    intro i hi
    refine gW_b D_Mo_save 6 2 (pc' := 15) (l' := [(0, .ref 0), (1, .int (nI i))]) (st' := [.int 515, .int (nI i)]) (h' := [cO 6 [.int (mTh M), .ref 1, .ref 2, .int (nI (mN M)), .ref 3, .ref 4, .int (nI (mTy M)), .ref 5, .int (nI (mSt M)), .ref 6, .int (nI (mPm M)), .int (nI (mSpt M)), .int (mWr M), .long (mHs M)], cI 103 (zD (mD M)), cI 618 (shF (svF (mDs M)) i), cI 103 (zD (mSp M)), cI 60 (mBf M), cI 10 (oF (mOd M)), cI 39 (mPa M)]) (P := True) rfl trivial ?_
    refine gW_ic_ge (gdec_at D_Mo_save 8 rfl) (tgt := 39) rfl (fun cq => absurd cq (mt (gle (gk 515) (rfl : nI i = nI i) (by omega) (by omega)).mp (by omega))) (fun _ => ?_)
    refine gW_b D_Mo_save 9 12 (pc' := 11) (l' := [(0, .ref 0), (1, .int ((nI i) + 1))]) (st' := []) (h' := [cO 6 [.int (mTh M), .ref 1, .ref 2, .int (nI (mN M)), .ref 3, .ref 4, .int (nI (mTy M)), .ref 5, .int (nI (mSt M)), .ref 6, .int (nI (mPm M)), .int (nI (mSpt M)), .int (mWr M), .long (mHs M)], cI 103 (zD (mD M)), cI 618 (upd (shF (svF (mDs M)) i) ((nI i).toNatClampNeg) ((shF (svF (mDs M)) i) (((nI i) + 103).toNatClampNeg))), cI 103 (zD (mSp M)), cI 60 (mBf M), cI 10 (oF (mOd M)), cI 39 (mPa M)]) (P := vp_in ((nI i) + 103) 618 ∧ vp_in (nI i) 618 ∧ True) rfl ⟨(gvin (gadd (rfl : nI i = nI i) (gk 103)) (by omega) (by omega)), (gvin (rfl : nI i = nI i) (by omega) (by omega)), trivial⟩ ?_
    rw [show ((nI i) + 103).toNatClampNeg = (i + 103) from gclp (gadd (rfl : nI i = nI i) (gk 103)) (by omega)]
    rw [show (nI i).toNatClampNeg = i from gclp (rfl : nI i = nI i) (by omega)]
    rw [show ((nI i) + 1 : Int32) = nI (i + 1) from (gadd (rfl : nI i = nI i) (gk 1))]
    rw [shF_s]
    exact ih (i + 1) (by omega)
theorem l_save2 (M : gMo) (hn : mN M < 6) {sc : Nat × (Nat → Int32)} {n0 : Nat} {E : gO → gH → Prop} (kk : gW K_Mo_save sc { frames := 0, locals := 0, cells := 0, slots := 0 } n0 E 0 0 83 [(0, .ref 0), (1, .int (nI 103))] [] ([cO 6 [.int (mTh M), .ref 1, .ref 2, .int (nI (mN M)), .ref 3, .ref 4, .int (nI (mTy M)), .ref 5, .int (nI (mSt M)), .ref 6, .int (nI (mPm M)), .int (nI (mSpt M)), .int (mWr M), .long (mHs M)], cI 103 (zD (mD M)), cI 618 (cpF (zD (mD M)) (svF (mDs M)) 0 (mN M * 103) 103), cI 103 (zD (mSp M)), cI 60 (mBf M), cI 10 (oF (mOd M)), cI 39 (mPa M)])) : ∀ (n i : Nat), i + n = 103 → gW K_Mo_save sc { frames := 0, locals := 0, cells := 0, slots := 0 } n0 E 0 0 51 [(0, .ref 0), (1, .int (nI i))] [] ([cO 6 [.int (mTh M), .ref 1, .ref 2, .int (nI (mN M)), .ref 3, .ref 4, .int (nI (mTy M)), .ref 5, .int (nI (mSt M)), .ref 6, .int (nI (mPm M)), .int (nI (mSpt M)), .int (mWr M), .long (mHs M)], cI 103 (zD (mD M)), cI 618 (cpF (zD (mD M)) (svF (mDs M)) 0 (mN M * 103) i), cI 103 (zD (mSp M)), cI 60 (mBf M), cI 10 (oF (mOd M)), cI 39 (mPa M)]) := by
  intro n
  induction n with
  | zero =>
    intro i hi
    obtain rfl : 103 = i := by omega
    refine gW_b D_Mo_save 29 2 (pc' := 54) (l' := [(0, .ref 0), (1, .int (nI 103))]) (st' := [.int 103, .int (nI 103)]) (h' := [cO 6 [.int (mTh M), .ref 1, .ref 2, .int (nI (mN M)), .ref 3, .ref 4, .int (nI (mTy M)), .ref 5, .int (nI (mSt M)), .ref 6, .int (nI (mPm M)), .int (nI (mSpt M)), .int (mWr M), .long (mHs M)], cI 103 (zD (mD M)), cI 618 (cpF (zD (mD M)) (svF (mDs M)) 0 (mN M * 103) 103), cI 103 (zD (mSp M)), cI 60 (mBf M), cI 10 (oF (mOd M)), cI 39 (mPa M)]) (P := True) rfl trivial ?_
    refine gW_ic_ge (gdec_at D_Mo_save 31 rfl) (tgt := 83) rfl (fun _ => ?_) (fun cq => absurd ((gle (gk 103) (rfl : nI 103 = nI 103) (by omega) (by omega)).mpr (by omega)) cq)
    exact kk
  | succ n ih =>
    intro i hi
    refine gW_b D_Mo_save 29 2 (pc' := 54) (l' := [(0, .ref 0), (1, .int (nI i))]) (st' := [.int 103, .int (nI i)]) (h' := [cO 6 [.int (mTh M), .ref 1, .ref 2, .int (nI (mN M)), .ref 3, .ref 4, .int (nI (mTy M)), .ref 5, .int (nI (mSt M)), .ref 6, .int (nI (mPm M)), .int (nI (mSpt M)), .int (mWr M), .long (mHs M)], cI 103 (zD (mD M)), cI 618 (cpF (zD (mD M)) (svF (mDs M)) 0 (mN M * 103) i), cI 103 (zD (mSp M)), cI 60 (mBf M), cI 10 (oF (mOd M)), cI 39 (mPa M)]) (P := True) rfl trivial ?_
    refine gW_ic_ge (gdec_at D_Mo_save 31 rfl) (tgt := 83) rfl (fun cq => absurd cq (mt (gle (gk 103) (rfl : nI i = nI i) (by omega) (by omega)).mp (by omega))) (fun _ => ?_)
    refine gW_b D_Mo_save 32 15 (pc' := 51) (l' := [(0, .ref 0), (1, .int ((nI i) + 1))]) (st' := []) (h' := [cO 6 [.int (mTh M), .ref 1, .ref 2, .int (nI (mN M)), .ref 3, .ref 4, .int (nI (mTy M)), .ref 5, .int (nI (mSt M)), .ref 6, .int (nI (mPm M)), .int (nI (mSpt M)), .int (mWr M), .long (mHs M)], cI 103 (zD (mD M)), cI 618 (upd (cpF (zD (mD M)) (svF (mDs M)) 0 (mN M * 103) i) ((((nI (mN M)) * 103) + (nI i)).toNatClampNeg) ((zD (mD M)) ((nI i).toNatClampNeg))), cI 103 (zD (mSp M)), cI 60 (mBf M), cI 10 (oF (mOd M)), cI 39 (mPa M)]) (P := vp_in (nI i) 103 ∧ vp_in (((nI (mN M)) * 103) + (nI i)) 618 ∧ True) rfl ⟨(gvin (rfl : nI i = nI i) (by omega) (by omega)), (gvin (gadd (gmul (rfl : nI (mN M) = nI (mN M)) (gk 103)) (rfl : nI i = nI i)) (by omega) (by omega)), trivial⟩ ?_
    rw [show (nI i).toNatClampNeg = i from gclp (rfl : nI i = nI i) (by omega)]
    rw [show (((nI (mN M)) * 103) + (nI i)).toNatClampNeg = (((mN M) * 103) + i) from gclp (gadd (gmul (rfl : nI (mN M) = nI (mN M)) (gk 103)) (rfl : nI i = nI i)) (by omega)]
    rw [show ((nI i) + 1 : Int32) = nI (i + 1) from (gadd (rfl : nI i = nI i) (gk 1))]
    rw [show zD (mD M) i = zD (mD M) (0 + i) from congrArg _ (Nat.zero_add i).symm, cpF_s]
    exact ih (i + 1) (by omega)
theorem l_save3 (M : gMo) (hn : mN M < 6) {sc : Nat × (Nat → Int32)} {n0 : Nat} (hn0 : n0 ≤ 7) : gW K_Mo_save sc { frames := 0, locals := 0, cells := 0, slots := 0 } n0 (gD (.inl none) (cMo (wN (wDs M (updD (mDs M) (mN M) (mD M))) (mN M + 1)))) 0 0 49 [(0, .ref 0)] [] (cMo M) := by
  refine gW_b D_Mo_save 27 2 (pc' := 51) (l' := [(0, .ref 0), (1, .int 0)]) (st' := []) (h' := [cO 6 [.int (mTh M), .ref 1, .ref 2, .int (nI (mN M)), .ref 3, .ref 4, .int (nI (mTy M)), .ref 5, .int (nI (mSt M)), .ref 6, .int (nI (mPm M)), .int (nI (mSpt M)), .int (mWr M), .long (mHs M)], cI 103 (zD (mD M)), cI 618 (svF (mDs M)), cI 103 (zD (mSp M)), cI 60 (mBf M), cI 10 (oF (mOd M)), cI 39 (mPa M)]) (P := True) rfl trivial ?_
  rw [← cpF_0 (zD (mD M)) (svF (mDs M)) 0 (mN M * 103)]
  refine l_save2 M hn ?_ 103 0 rfl
  rw [cpF_sv _ _ _ hn]
  refine gW_b D_Mo_save 47 6 (pc' := 93) (l' := [(0, .ref 0), (1, .int (nI 103))]) (st' := []) (h' := [cO 6 [.int (mTh M), .ref 1, .ref 2, .int ((nI (mN M)) + 1), .ref 3, .ref 4, .int (nI (mTy M)), .ref 5, .int (nI (mSt M)), .ref 6, .int (nI (mPm M)), .int (nI (mSpt M)), .int (mWr M), .long (mHs M)], cI 103 (zD (mD M)), cI 618 (svF (updD (mDs M) (mN M) (mD M))), cI 103 (zD (mSp M)), cI 60 (mBf M), cI 10 (oF (mOd M)), cI 39 (mPa M)]) (P := True) rfl trivial ?_
  rw [show ((nI (mN M)) + 1 : Int32) = nI ((mN M) + 1) from (gadd (rfl : nI (mN M) = nI (mN M)) (gk 1))]
  exact gW_vret (gdec_at D_Mo_save 53 rfl) rfl hn0 ⟨rfl, rfl⟩ (Nat.le_of_ble_eq_true rfl) (Nat.le_of_ble_eq_true rfl)
theorem n_save (M : gMo) (hn : mN M ≤ 6) : gM K_Mo_save { frames := 0, locals := 0, cells := 0, slots := 0 } [.ref 0] (cMo M) (gD (.inl none) (cMo (wN (wDs M (svDs (mN M) (mDs M) (mD M))) (svN (mN M))))) := by
  refine gM_of rfl rfl (Nat.le_of_ble_eq_true rfl) (fun sc => ?_)
  refine gW_b D_Mo_save 0 3 (pc' := 6) (l' := [(0, .ref 0)]) (st' := [.int 6, .int (nI (mN M))]) (h' := cMo M) (P := True) rfl trivial ?_
  refine gW_ic_ne (gdec_at D_Mo_save 3 rfl) (tgt := 49) rfl (fun c => ?_) (fun c => ?_)
  · have c := mt (geq (rfl : nI (mN M) = nI (mN M)) (gk 6) (by omega) (by omega)).mpr c
    rw [show svDs (mN M) (mDs M) (mD M) = updD (mDs M) (mN M) (mD M) from if_neg c, show svN (mN M) = mN M + 1 from if_pos (by omega)]
    exact l_save3 M (by omega) (Nat.le_of_ble_eq_true rfl)
  · have c := (geq (rfl : nI (mN M) = nI (mN M)) (gk 6) (by omega) (by omega)).mp c
    rw [show svDs (mN M) (mDs M) (mD M) = updD (shD (mDs M)) 5 (mD M) from if_pos c, show svN (mN M) = 6 from if_neg (by omega)]
    refine gW_b D_Mo_save 4 2 (pc' := 11) (l' := [(0, .ref 0), (1, .int 0)]) (st' := []) (h' := [cO 6 [.int (mTh M), .ref 1, .ref 2, .int (nI (mN M)), .ref 3, .ref 4, .int (nI (mTy M)), .ref 5, .int (nI (mSt M)), .ref 6, .int (nI (mPm M)), .int (nI (mSpt M)), .int (mWr M), .long (mHs M)], cI 103 (zD (mD M)), cI 618 (svF (mDs M)), cI 103 (zD (mSp M)), cI 60 (mBf M), cI 10 (oF (mOd M)), cI 39 (mPa M)]) (P := True) rfl trivial ?_
    rw [← shF_0 (svF (mDs M))]
    refine l_save1 M ?_ 515 0 rfl
    rw [shF_e]
    refine gW_b D_Mo_save 21 6 (pc' := 49) (l' := [(0, .ref 0), (1, .int (nI 515))]) (st' := []) (h' := [cO 6 [.int (mTh M), .ref 1, .ref 2, .int ((nI (mN M)) - 1), .ref 3, .ref 4, .int (nI (mTy M)), .ref 5, .int (nI (mSt M)), .ref 6, .int (nI (mPm M)), .int (nI (mSpt M)), .int (mWr M), .long (mHs M)], cI 103 (zD (mD M)), cI 618 (svF (shD (mDs M))), cI 103 (zD (mSp M)), cI 60 (mBf M), cI 10 (oF (mOd M)), cI 39 (mPa M)]) (P := True) rfl trivial ?_
    rw [show ((nI (mN M)) - 1 : Int32) = nI ((mN M) - 1) from (gsub (rfl : nI (mN M) = nI (mN M)) (gk 1) (by omega))]
    rw [show mN M - 1 = 5 by omega]
    refine gW_l [0] (l' := [(0, .ref 0)]) rfl ?_
    exact l_save3 (wN (wDs M (shD (mDs M))) 5) (show 5 < 6 by decide) (Nat.le_of_ble_eq_true rfl)
theorem l_undo (M : gMo) (q : Nat) (h6 : q < 6) {sc : Nat × (Nat → Int32)} {n0 : Nat} {E : gO → gH → Prop} (kk : gW K_Mo_undo sc { frames := 0, locals := 0, cells := 0, slots := 0 } n0 E 0 0 69 [(0, .ref 0), (1, .int (nI 103))] [] ([cO 6 [.int 0, .ref 1, .ref 2, .int (nI q), .ref 3, .ref 4, .int (nI (mTy M)), .ref 5, .int (nI (mSt M)), .ref 6, .int (nI (mPm M)), .int (nI (mSpt M)), .int (mWr M), .long (mHs M)], cI 103 (cpF (svF (mDs M)) (zD (mD M)) (q * 103) 0 103), cI 618 (svF (mDs M)), cI 103 (zD (mSp M)), cI 60 (mBf M), cI 10 (oF (mOd M)), cI 39 (mPa M)])) : ∀ (n i : Nat), i + n = 103 → gW K_Mo_undo sc { frames := 0, locals := 0, cells := 0, slots := 0 } n0 E 0 0 37 [(0, .ref 0), (1, .int (nI i))] [] ([cO 6 [.int 0, .ref 1, .ref 2, .int (nI q), .ref 3, .ref 4, .int (nI (mTy M)), .ref 5, .int (nI (mSt M)), .ref 6, .int (nI (mPm M)), .int (nI (mSpt M)), .int (mWr M), .long (mHs M)], cI 103 (cpF (svF (mDs M)) (zD (mD M)) (q * 103) 0 i), cI 618 (svF (mDs M)), cI 103 (zD (mSp M)), cI 60 (mBf M), cI 10 (oF (mOd M)), cI 39 (mPa M)]) := by
  intro n
  induction n with
  | zero =>
    intro i hi
    obtain rfl : 103 = i := by omega
    refine gW_b D_Mo_undo 21 2 (pc' := 40) (l' := [(0, .ref 0), (1, .int (nI 103))]) (st' := [.int 103, .int (nI 103)]) (h' := [cO 6 [.int 0, .ref 1, .ref 2, .int (nI q), .ref 3, .ref 4, .int (nI (mTy M)), .ref 5, .int (nI (mSt M)), .ref 6, .int (nI (mPm M)), .int (nI (mSpt M)), .int (mWr M), .long (mHs M)], cI 103 (cpF (svF (mDs M)) (zD (mD M)) (q * 103) 0 103), cI 618 (svF (mDs M)), cI 103 (zD (mSp M)), cI 60 (mBf M), cI 10 (oF (mOd M)), cI 39 (mPa M)]) (P := True) rfl trivial ?_
    refine gW_ic_ge (gdec_at D_Mo_undo 23 rfl) (tgt := 69) rfl (fun _ => ?_) (fun cq => absurd ((gle (gk 103) (rfl : nI 103 = nI 103) (by omega) (by omega)).mpr (by omega)) cq)
    exact kk
  | succ n ih =>
    intro i hi
    refine gW_b D_Mo_undo 21 2 (pc' := 40) (l' := [(0, .ref 0), (1, .int (nI i))]) (st' := [.int 103, .int (nI i)]) (h' := [cO 6 [.int 0, .ref 1, .ref 2, .int (nI q), .ref 3, .ref 4, .int (nI (mTy M)), .ref 5, .int (nI (mSt M)), .ref 6, .int (nI (mPm M)), .int (nI (mSpt M)), .int (mWr M), .long (mHs M)], cI 103 (cpF (svF (mDs M)) (zD (mD M)) (q * 103) 0 i), cI 618 (svF (mDs M)), cI 103 (zD (mSp M)), cI 60 (mBf M), cI 10 (oF (mOd M)), cI 39 (mPa M)]) (P := True) rfl trivial ?_
    refine gW_ic_ge (gdec_at D_Mo_undo 23 rfl) (tgt := 69) rfl (fun cq => absurd cq (mt (gle (gk 103) (rfl : nI i = nI i) (by omega) (by omega)).mp (by omega))) (fun _ => ?_)
    refine gW_b D_Mo_undo 24 15 (pc' := 37) (l' := [(0, .ref 0), (1, .int ((nI i) + 1))]) (st' := []) (h' := [cO 6 [.int 0, .ref 1, .ref 2, .int (nI q), .ref 3, .ref 4, .int (nI (mTy M)), .ref 5, .int (nI (mSt M)), .ref 6, .int (nI (mPm M)), .int (nI (mSpt M)), .int (mWr M), .long (mHs M)], cI 103 (upd (cpF (svF (mDs M)) (zD (mD M)) (q * 103) 0 i) ((nI i).toNatClampNeg) ((svF (mDs M)) ((((nI q) * 103) + (nI i)).toNatClampNeg))), cI 618 (svF (mDs M)), cI 103 (zD (mSp M)), cI 60 (mBf M), cI 10 (oF (mOd M)), cI 39 (mPa M)]) (P := vp_in (((nI q) * 103) + (nI i)) 618 ∧ vp_in (nI i) 103 ∧ True) rfl ⟨(gvin (gadd (gmul (rfl : nI q = nI q) (gk 103)) (rfl : nI i = nI i)) (by omega) (by omega)), (gvin (rfl : nI i = nI i) (by omega) (by omega)), trivial⟩ ?_
    rw [show (((nI q) * 103) + (nI i)).toNatClampNeg = ((q * 103) + i) from gclp (gadd (gmul (rfl : nI q = nI q) (gk 103)) (rfl : nI i = nI i)) (by omega)]
    rw [show (nI i).toNatClampNeg = i from gclp (rfl : nI i = nI i) (by omega)]
    rw [show ((nI i) + 1 : Int32) = nI (i + 1) from (gadd (rfl : nI i = nI i) (gk 1))]
    rw [show upd (cpF (svF (mDs M)) (zD (mD M)) (q * 103) 0 i) i (svF (mDs M) (q * 103 + i)) = cpF (svF (mDs M)) (zD (mD M)) (q * 103) 0 (i + 1) from by rw [← cpF_s, Nat.zero_add]]
    exact ih (i + 1) (by omega)
theorem n_undo (M : gMo) (q : Nat) (h6 : q < 6) : gM K_Mo_undo { frames := 0, locals := 0, cells := 0, slots := 0 } [.ref 0] (cMo (wN M (q + 1))) (gD (.inl (some (.int (nI q)))) (cMo (wN (wD (wTh M 0) (mDs M q)) q))) := by
  refine gM_of rfl rfl (Nat.le_of_ble_eq_true rfl) (fun sc => ?_)
  refine gW_b D_Mo_undo 0 3 (pc' := 5) (l' := [(0, .ref 0)]) (st' := [.int (nI (q + 1)), .ref 0]) (h' := cMo (wN M (q + 1))) (P := True) rfl trivial ?_
  refine gW_if_ne (gdec_at D_Mo_undo 3 rfl) (tgt := 12) rfl (fun _ => ?_) (fun cq => absurd cq (mt (geq (rfl : nI (q + 1) = nI (q + 1)) (gk 0) (by omega) (by omega)).mp (by omega)))
  refine gW_b D_Mo_undo 6 4 (pc' := 20) (l' := [(0, .ref 0)]) (st' := [.int 0]) (h' := cMo (wN (wTh M 0) (q + 1))) (P := True) rfl trivial ?_
  refine gW_if_le (gdec_at D_Mo_undo 10 rfl) (tgt := 25) rfl (fun _ => ?_) (fun cq => absurd (by decide) cq)
  refine gW_b D_Mo_undo 13 6 (pc' := 35) (l' := [(0, .ref 0)]) (st' := []) (h' := [cO 6 [.int 0, .ref 1, .ref 2, .int ((nI (q + 1)) - 1), .ref 3, .ref 4, .int (nI (mTy M)), .ref 5, .int (nI (mSt M)), .ref 6, .int (nI (mPm M)), .int (nI (mSpt M)), .int (mWr M), .long (mHs M)], cI 103 (zD (mD M)), cI 618 (svF (mDs M)), cI 103 (zD (mSp M)), cI 60 (mBf M), cI 10 (oF (mOd M)), cI 39 (mPa M)]) (P := True) rfl trivial ?_
  rw [show ((nI (q + 1)) - 1 : Int32) = nI q from (gsub1 (rfl : nI (q + 1) = nI (q + 1)))]
  refine gW_b D_Mo_undo 19 2 (pc' := 37) (l' := [(0, .ref 0), (1, .int 0)]) (st' := []) (h' := [cO 6 [.int 0, .ref 1, .ref 2, .int (nI q), .ref 3, .ref 4, .int (nI (mTy M)), .ref 5, .int (nI (mSt M)), .ref 6, .int (nI (mPm M)), .int (nI (mSpt M)), .int (mWr M), .long (mHs M)], cI 103 (zD (mD M)), cI 618 (svF (mDs M)), cI 103 (zD (mSp M)), cI 60 (mBf M), cI 10 (oF (mOd M)), cI 39 (mPa M)]) (P := True) rfl trivial ?_
  rw [← cpF_0 (svF (mDs M)) (zD (mD M)) (q * 103) 0]
  refine l_undo M q h6 ?_ 103 0 rfl
  rw [cpF_un _ _ _ h6]
  refine gW_b D_Mo_undo 39 2 (pc' := 73) (l' := [(0, .ref 0), (1, .int (nI 103))]) (st' := [.int (nI q)]) (h' := cMo (wN (wD (wTh M 0) (mDs M q)) q)) (P := True) rfl trivial ?_
  exact gW_iret (gdec_at D_Mo_undo 41 rfl) rfl rfl (Nat.le_of_ble_eq_true rfl) ⟨rfl, rfl⟩ (Nat.le_of_ble_eq_true rfl) (Nat.le_of_ble_eq_true rfl)
theorem n_undo_x (M : gMo)  : gM K_Mo_undo { frames := 0, locals := 0, cells := 0, slots := 0 } [.ref 0] (cMo (wN M 0)) (gD (.inl (some (.int 0))) (cMo (wN (wTh M 1) 0))) := by
  refine gM_of rfl rfl (Nat.le_of_ble_eq_true rfl) (fun sc => ?_)
  refine gW_b D_Mo_undo 0 3 (pc' := 5) (l' := [(0, .ref 0)]) (st' := [.int 0, .ref 0]) (h' := cMo (wN M 0)) (P := True) rfl trivial ?_
  refine gW_if_ne (gdec_at D_Mo_undo 3 rfl) (tgt := 12) rfl (fun cq => absurd (by decide) cq) (fun _ => ?_)
  refine gW_b D_Mo_undo 4 2 (pc' := 13) (l' := [(0, .ref 0)]) (st' := [.int 1, .ref 0]) (h' := cMo (wN M 0)) (P := True) rfl trivial ?_
  refine gW_b D_Mo_undo 7 3 (pc' := 20) (l' := [(0, .ref 0)]) (st' := [.int 1]) (h' := cMo (wN (wTh M 1) 0)) (P := True) rfl trivial ?_
  refine gW_if_le (gdec_at D_Mo_undo 10 rfl) (tgt := 25) rfl (fun cq => absurd cq (by decide)) (fun _ => ?_)
  refine gW_b D_Mo_undo 11 1 (pc' := 24) (l' := [(0, .ref 0)]) (st' := [.int 0]) (h' := cMo (wN (wTh M 1) 0)) (P := True) rfl trivial ?_
  exact gW_iret (gdec_at D_Mo_undo 12 rfl) rfl rfl (Nat.le_of_ble_eq_true rfl) ⟨rfl, rfl⟩ (Nat.le_of_ble_eq_true rfl) (Nat.le_of_ble_eq_true rfl)
theorem l_putAside (M : gMo) {sc : Nat × (Nat → Int32)} {n0 : Nat} {E : gO → gH → Prop} (kk : gW K_Mo_putAside sc { frames := 0, locals := 0, cells := 0, slots := 0 } n0 E 0 0 26 [(0, .ref 0), (1, .int (nI 103))] [] ([cO 6 [.int (mTh M), .ref 1, .ref 2, .int (nI (mN M)), .ref 3, .ref 4, .int (nI (mTy M)), .ref 5, .int (nI (mSt M)), .ref 6, .int (nI (mPm M)), .int (nI (mSpt M)), .int (mWr M), .long (mHs M)], cI 103 (zD (mD M)), cI 618 (svF (mDs M)), cI 103 (cpF (zD (mD M)) (zD (mSp M)) 0 0 103), cI 60 (mBf M), cI 10 (oF (mOd M)), cI 39 (mPa M)])) : ∀ (n i : Nat), i + n = 103 → gW K_Mo_putAside sc { frames := 0, locals := 0, cells := 0, slots := 0 } n0 E 0 0 2 [(0, .ref 0), (1, .int (nI i))] [] ([cO 6 [.int (mTh M), .ref 1, .ref 2, .int (nI (mN M)), .ref 3, .ref 4, .int (nI (mTy M)), .ref 5, .int (nI (mSt M)), .ref 6, .int (nI (mPm M)), .int (nI (mSpt M)), .int (mWr M), .long (mHs M)], cI 103 (zD (mD M)), cI 618 (svF (mDs M)), cI 103 (cpF (zD (mD M)) (zD (mSp M)) 0 0 i), cI 60 (mBf M), cI 10 (oF (mOd M)), cI 39 (mPa M)]) := by
  intro n
  induction n with
  | zero =>
    intro i hi
    obtain rfl : 103 = i := by omega
    refine gW_b D_Mo_putAside 2 2 (pc' := 5) (l' := [(0, .ref 0), (1, .int (nI 103))]) (st' := [.int 103, .int (nI 103)]) (h' := [cO 6 [.int (mTh M), .ref 1, .ref 2, .int (nI (mN M)), .ref 3, .ref 4, .int (nI (mTy M)), .ref 5, .int (nI (mSt M)), .ref 6, .int (nI (mPm M)), .int (nI (mSpt M)), .int (mWr M), .long (mHs M)], cI 103 (zD (mD M)), cI 618 (svF (mDs M)), cI 103 (cpF (zD (mD M)) (zD (mSp M)) 0 0 103), cI 60 (mBf M), cI 10 (oF (mOd M)), cI 39 (mPa M)]) (P := True) rfl trivial ?_
    refine gW_ic_ge (gdec_at D_Mo_putAside 4 rfl) (tgt := 26) rfl (fun _ => ?_) (fun cq => absurd ((gle (gk 103) (rfl : nI 103 = nI 103) (by omega) (by omega)).mpr (by omega)) cq)
    exact kk
  | succ n ih =>
    intro i hi
    refine gW_b D_Mo_putAside 2 2 (pc' := 5) (l' := [(0, .ref 0), (1, .int (nI i))]) (st' := [.int 103, .int (nI i)]) (h' := [cO 6 [.int (mTh M), .ref 1, .ref 2, .int (nI (mN M)), .ref 3, .ref 4, .int (nI (mTy M)), .ref 5, .int (nI (mSt M)), .ref 6, .int (nI (mPm M)), .int (nI (mSpt M)), .int (mWr M), .long (mHs M)], cI 103 (zD (mD M)), cI 618 (svF (mDs M)), cI 103 (cpF (zD (mD M)) (zD (mSp M)) 0 0 i), cI 60 (mBf M), cI 10 (oF (mOd M)), cI 39 (mPa M)]) (P := True) rfl trivial ?_
    refine gW_ic_ge (gdec_at D_Mo_putAside 4 rfl) (tgt := 26) rfl (fun cq => absurd cq (mt (gle (gk 103) (rfl : nI i = nI i) (by omega) (by omega)).mp (by omega))) (fun _ => ?_)
    refine gW_b D_Mo_putAside 5 10 (pc' := 2) (l' := [(0, .ref 0), (1, .int ((nI i) + 1))]) (st' := []) (h' := [cO 6 [.int (mTh M), .ref 1, .ref 2, .int (nI (mN M)), .ref 3, .ref 4, .int (nI (mTy M)), .ref 5, .int (nI (mSt M)), .ref 6, .int (nI (mPm M)), .int (nI (mSpt M)), .int (mWr M), .long (mHs M)], cI 103 (zD (mD M)), cI 618 (svF (mDs M)), cI 103 (upd (cpF (zD (mD M)) (zD (mSp M)) 0 0 i) ((nI i).toNatClampNeg) ((zD (mD M)) ((nI i).toNatClampNeg))), cI 60 (mBf M), cI 10 (oF (mOd M)), cI 39 (mPa M)]) (P := vp_in (nI i) 103 ∧ vp_in (nI i) 103 ∧ True) rfl ⟨(gvin (rfl : nI i = nI i) (by omega) (by omega)), (gvin (rfl : nI i = nI i) (by omega) (by omega)), trivial⟩ ?_
    rw [show (nI i).toNatClampNeg = i from gclp (rfl : nI i = nI i) (by omega)]
    rw [show ((nI i) + 1 : Int32) = nI (i + 1) from (gadd (rfl : nI i = nI i) (gk 1))]
    rw [show upd (cpF (zD (mD M)) (zD (mSp M)) 0 0 i) i (zD (mD M) i) = cpF (zD (mD M)) (zD (mSp M)) 0 0 (i + 1) from by rw [← cpF_s, Nat.zero_add]]
    exact ih (i + 1) (by omega)
theorem n_putAside (M : gMo)  : gM K_Mo_putAside { frames := 0, locals := 0, cells := 0, slots := 0 } [.ref 0] (cMo M) (gD (.inl none) (cMo (wSp M (mD M)))) := by
  refine gM_of rfl rfl (Nat.le_of_ble_eq_true rfl) (fun sc => ?_)
  refine gW_b D_Mo_putAside 0 2 (pc' := 2) (l' := [(0, .ref 0), (1, .int 0)]) (st' := []) (h' := [cO 6 [.int (mTh M), .ref 1, .ref 2, .int (nI (mN M)), .ref 3, .ref 4, .int (nI (mTy M)), .ref 5, .int (nI (mSt M)), .ref 6, .int (nI (mPm M)), .int (nI (mSpt M)), .int (mWr M), .long (mHs M)], cI 103 (zD (mD M)), cI 618 (svF (mDs M)), cI 103 (zD (mSp M)), cI 60 (mBf M), cI 10 (oF (mOd M)), cI 39 (mPa M)]) (P := True) rfl trivial ?_
  rw [← cpF_0 (zD (mD M)) (zD (mSp M)) 0 0]
  refine l_putAside M ?_ 103 0 rfl
  rw [cpF_zz]
  exact gW_vret (gdec_at D_Mo_putAside 15 rfl) rfl (Nat.le_of_ble_eq_true rfl) ⟨rfl, rfl⟩ (Nat.le_of_ble_eq_true rfl) (Nat.le_of_ble_eq_true rfl)
theorem l_bringBack (M : gMo) {sc : Nat × (Nat → Int32)} {n0 : Nat} {E : gO → gH → Prop} (kk : gW K_Mo_bringBack sc { frames := 0, locals := 0, cells := 0, slots := 0 } n0 E 0 0 26 [(0, .ref 0), (1, .int (nI 103))] [] ([cO 6 [.int (mTh M), .ref 1, .ref 2, .int (nI (mN M)), .ref 3, .ref 4, .int (nI (mTy M)), .ref 5, .int (nI (mSt M)), .ref 6, .int (nI (mPm M)), .int (nI (mSpt M)), .int (mWr M), .long (mHs M)], cI 103 (cpF (zD (mSp M)) (zD (mD M)) 0 0 103), cI 618 (svF (mDs M)), cI 103 (zD (mSp M)), cI 60 (mBf M), cI 10 (oF (mOd M)), cI 39 (mPa M)])) : ∀ (n i : Nat), i + n = 103 → gW K_Mo_bringBack sc { frames := 0, locals := 0, cells := 0, slots := 0 } n0 E 0 0 2 [(0, .ref 0), (1, .int (nI i))] [] ([cO 6 [.int (mTh M), .ref 1, .ref 2, .int (nI (mN M)), .ref 3, .ref 4, .int (nI (mTy M)), .ref 5, .int (nI (mSt M)), .ref 6, .int (nI (mPm M)), .int (nI (mSpt M)), .int (mWr M), .long (mHs M)], cI 103 (cpF (zD (mSp M)) (zD (mD M)) 0 0 i), cI 618 (svF (mDs M)), cI 103 (zD (mSp M)), cI 60 (mBf M), cI 10 (oF (mOd M)), cI 39 (mPa M)]) := by
  intro n
  induction n with
  | zero =>
    intro i hi
    obtain rfl : 103 = i := by omega
    refine gW_b D_Mo_bringBack 2 2 (pc' := 5) (l' := [(0, .ref 0), (1, .int (nI 103))]) (st' := [.int 103, .int (nI 103)]) (h' := [cO 6 [.int (mTh M), .ref 1, .ref 2, .int (nI (mN M)), .ref 3, .ref 4, .int (nI (mTy M)), .ref 5, .int (nI (mSt M)), .ref 6, .int (nI (mPm M)), .int (nI (mSpt M)), .int (mWr M), .long (mHs M)], cI 103 (cpF (zD (mSp M)) (zD (mD M)) 0 0 103), cI 618 (svF (mDs M)), cI 103 (zD (mSp M)), cI 60 (mBf M), cI 10 (oF (mOd M)), cI 39 (mPa M)]) (P := True) rfl trivial ?_
    refine gW_ic_ge (gdec_at D_Mo_bringBack 4 rfl) (tgt := 26) rfl (fun _ => ?_) (fun cq => absurd ((gle (gk 103) (rfl : nI 103 = nI 103) (by omega) (by omega)).mpr (by omega)) cq)
    exact kk
  | succ n ih =>
    intro i hi
    refine gW_b D_Mo_bringBack 2 2 (pc' := 5) (l' := [(0, .ref 0), (1, .int (nI i))]) (st' := [.int 103, .int (nI i)]) (h' := [cO 6 [.int (mTh M), .ref 1, .ref 2, .int (nI (mN M)), .ref 3, .ref 4, .int (nI (mTy M)), .ref 5, .int (nI (mSt M)), .ref 6, .int (nI (mPm M)), .int (nI (mSpt M)), .int (mWr M), .long (mHs M)], cI 103 (cpF (zD (mSp M)) (zD (mD M)) 0 0 i), cI 618 (svF (mDs M)), cI 103 (zD (mSp M)), cI 60 (mBf M), cI 10 (oF (mOd M)), cI 39 (mPa M)]) (P := True) rfl trivial ?_
    refine gW_ic_ge (gdec_at D_Mo_bringBack 4 rfl) (tgt := 26) rfl (fun cq => absurd cq (mt (gle (gk 103) (rfl : nI i = nI i) (by omega) (by omega)).mp (by omega))) (fun _ => ?_)
    refine gW_b D_Mo_bringBack 5 10 (pc' := 2) (l' := [(0, .ref 0), (1, .int ((nI i) + 1))]) (st' := []) (h' := [cO 6 [.int (mTh M), .ref 1, .ref 2, .int (nI (mN M)), .ref 3, .ref 4, .int (nI (mTy M)), .ref 5, .int (nI (mSt M)), .ref 6, .int (nI (mPm M)), .int (nI (mSpt M)), .int (mWr M), .long (mHs M)], cI 103 (upd (cpF (zD (mSp M)) (zD (mD M)) 0 0 i) ((nI i).toNatClampNeg) ((zD (mSp M)) ((nI i).toNatClampNeg))), cI 618 (svF (mDs M)), cI 103 (zD (mSp M)), cI 60 (mBf M), cI 10 (oF (mOd M)), cI 39 (mPa M)]) (P := vp_in (nI i) 103 ∧ vp_in (nI i) 103 ∧ True) rfl ⟨(gvin (rfl : nI i = nI i) (by omega) (by omega)), (gvin (rfl : nI i = nI i) (by omega) (by omega)), trivial⟩ ?_
    rw [show (nI i).toNatClampNeg = i from gclp (rfl : nI i = nI i) (by omega)]
    rw [show ((nI i) + 1 : Int32) = nI (i + 1) from (gadd (rfl : nI i = nI i) (gk 1))]
    rw [show upd (cpF (zD (mSp M)) (zD (mD M)) 0 0 i) i (zD (mSp M) i) = cpF (zD (mSp M)) (zD (mD M)) 0 0 (i + 1) from by rw [← cpF_s, Nat.zero_add]]
    exact ih (i + 1) (by omega)
theorem n_bringBack (M : gMo)  : gM K_Mo_bringBack { frames := 0, locals := 0, cells := 0, slots := 0 } [.ref 0] (cMo M) (gD (.inl none) (cMo (wD M (mSp M)))) := by
  refine gM_of rfl rfl (Nat.le_of_ble_eq_true rfl) (fun sc => ?_)
  refine gW_b D_Mo_bringBack 0 2 (pc' := 2) (l' := [(0, .ref 0), (1, .int 0)]) (st' := []) (h' := [cO 6 [.int (mTh M), .ref 1, .ref 2, .int (nI (mN M)), .ref 3, .ref 4, .int (nI (mTy M)), .ref 5, .int (nI (mSt M)), .ref 6, .int (nI (mPm M)), .int (nI (mSpt M)), .int (mWr M), .long (mHs M)], cI 103 (zD (mD M)), cI 618 (svF (mDs M)), cI 103 (zD (mSp M)), cI 60 (mBf M), cI 10 (oF (mOd M)), cI 39 (mPa M)]) (P := True) rfl trivial ?_
  rw [← cpF_0 (zD (mSp M)) (zD (mD M)) 0 0]
  refine l_bringBack M ?_ 103 0 rfl
  rw [cpF_zz]
  exact gW_vret (gdec_at D_Mo_bringBack 15 rfl) rfl (Nat.le_of_ble_eq_true rfl) ⟨rfl, rfl⟩ (Nat.le_of_ble_eq_true rfl) (Nat.le_of_ble_eq_true rfl)
theorem n_inTray (M : gMo) (a : Nat) (ha : a < 6) : gM K_Mo_inTray { frames := 1, locals := 22, cells := 0, slots := 0 } [.ref 0, .int (nI a)] (cMo M) (gD (.inl (some (.int (hA (dTr (mD M)) a)))) (cMo M)) := by
  refine gM_of rfl rfl (Nat.le_of_ble_eq_true rfl) (fun sc => ?_)
  refine gW_b D_Mo_inTray 0 6 (pc' := 6) (l' := [(0, .ref 0), (1, .int (nI a)), (2, .int 0), (3, .int 0)]) (st' := [.int 4, .int 0]) (h' := cMo M) (P := True) rfl trivial ?_
  refine gW_ic_ge (gdec_at D_Mo_inTray 6 rfl) (tgt := 24) rfl (fun cq => absurd cq (by decide)) (fun _ => ?_)
  refine gW_b D_Mo_inTray 7 4 (pc' := 13) (l' := [(0, .ref 0), (1, .int (nI a)), (2, .int 0), (3, .int 0)]) (st' := [.int 0, .int (nI a), .ref 0, .int 0]) (h' := cMo M) (P := True) rfl trivial ?_
  refine gW_callV (n_cubes M a 0 (by omega) (by omega)) lk_Mo_39 [0, 1, 2, 3, 4, 5, 6] (gdec_at D_Mo_inTray 11 rfl) (st := [.int 0]) rfl rfl ⟨rfl, rfl⟩ (Nat.le_of_ble_eq_true rfl) rfl (by decide) rfl (Nat.le_of_ble_eq_true rfl) ⟨Nat.le_of_ble_eq_true rfl, Nat.le_of_ble_eq_true rfl⟩ ⟨Nat.le_of_ble_eq_true rfl, Nat.le_of_ble_eq_true rfl⟩ (gAft_r rfl rfl (h' := cMo M) (st' := [.int ((dTr (mD M)) (a * 4 + 0)), .int 0]) (pc' := 16) (cs' := 0) (ss' := 0) rfl rfl rfl rfl rfl ?_)
  refine gW_b D_Mo_inTray 12 4 (pc' := 4) (l' := [(0, .ref 0), (1, .int (nI a)), (2, .int (0 + ((dTr (mD M)) (a * 4 + 0)))), (3, .int 1)]) (st' := []) (h' := cMo M) (P := True) rfl trivial ?_
  refine gW_b D_Mo_inTray 4 2 (pc' := 6) (l' := [(0, .ref 0), (1, .int (nI a)), (2, .int (0 + ((dTr (mD M)) (a * 4 + 0)))), (3, .int 1)]) (st' := [.int 4, .int 1]) (h' := cMo M) (P := True) rfl trivial ?_
  refine gW_ic_ge (gdec_at D_Mo_inTray 6 rfl) (tgt := 24) rfl (fun cq => absurd cq (by decide)) (fun _ => ?_)
  refine gW_b D_Mo_inTray 7 4 (pc' := 13) (l' := [(0, .ref 0), (1, .int (nI a)), (2, .int (0 + ((dTr (mD M)) (a * 4 + 0)))), (3, .int 1)]) (st' := [.int 1, .int (nI a), .ref 0, .int (0 + ((dTr (mD M)) (a * 4 + 0)))]) (h' := cMo M) (P := True) rfl trivial ?_
  refine gW_callV (n_cubes M a 1 (by omega) (by omega)) lk_Mo_39 [0, 1, 2, 3, 4, 5, 6] (gdec_at D_Mo_inTray 11 rfl) (st := [.int (0 + ((dTr (mD M)) (a * 4 + 0)))]) rfl rfl ⟨rfl, rfl⟩ (Nat.le_of_ble_eq_true rfl) rfl (by decide) rfl (Nat.le_of_ble_eq_true rfl) ⟨Nat.le_of_ble_eq_true rfl, Nat.le_of_ble_eq_true rfl⟩ ⟨Nat.le_of_ble_eq_true rfl, Nat.le_of_ble_eq_true rfl⟩ (gAft_r rfl rfl (h' := cMo M) (st' := [.int ((dTr (mD M)) (a * 4 + 1)), .int (0 + ((dTr (mD M)) (a * 4 + 0)))]) (pc' := 16) (cs' := 0) (ss' := 0) rfl rfl rfl rfl rfl ?_)
  refine gW_b D_Mo_inTray 12 4 (pc' := 4) (l' := [(0, .ref 0), (1, .int (nI a)), (2, .int ((0 + ((dTr (mD M)) (a * 4 + 0))) + ((dTr (mD M)) (a * 4 + 1)))), (3, .int 2)]) (st' := []) (h' := cMo M) (P := True) rfl trivial ?_
  refine gW_b D_Mo_inTray 4 2 (pc' := 6) (l' := [(0, .ref 0), (1, .int (nI a)), (2, .int ((0 + ((dTr (mD M)) (a * 4 + 0))) + ((dTr (mD M)) (a * 4 + 1)))), (3, .int 2)]) (st' := [.int 4, .int 2]) (h' := cMo M) (P := True) rfl trivial ?_
  refine gW_ic_ge (gdec_at D_Mo_inTray 6 rfl) (tgt := 24) rfl (fun cq => absurd cq (by decide)) (fun _ => ?_)
  refine gW_b D_Mo_inTray 7 4 (pc' := 13) (l' := [(0, .ref 0), (1, .int (nI a)), (2, .int ((0 + ((dTr (mD M)) (a * 4 + 0))) + ((dTr (mD M)) (a * 4 + 1)))), (3, .int 2)]) (st' := [.int 2, .int (nI a), .ref 0, .int ((0 + ((dTr (mD M)) (a * 4 + 0))) + ((dTr (mD M)) (a * 4 + 1)))]) (h' := cMo M) (P := True) rfl trivial ?_
  refine gW_callV (n_cubes M a 2 (by omega) (by omega)) lk_Mo_39 [0, 1, 2, 3, 4, 5, 6] (gdec_at D_Mo_inTray 11 rfl) (st := [.int ((0 + ((dTr (mD M)) (a * 4 + 0))) + ((dTr (mD M)) (a * 4 + 1)))]) rfl rfl ⟨rfl, rfl⟩ (Nat.le_of_ble_eq_true rfl) rfl (by decide) rfl (Nat.le_of_ble_eq_true rfl) ⟨Nat.le_of_ble_eq_true rfl, Nat.le_of_ble_eq_true rfl⟩ ⟨Nat.le_of_ble_eq_true rfl, Nat.le_of_ble_eq_true rfl⟩ (gAft_r rfl rfl (h' := cMo M) (st' := [.int ((dTr (mD M)) (a * 4 + 2)), .int ((0 + ((dTr (mD M)) (a * 4 + 0))) + ((dTr (mD M)) (a * 4 + 1)))]) (pc' := 16) (cs' := 0) (ss' := 0) rfl rfl rfl rfl rfl ?_)
  refine gW_b D_Mo_inTray 12 4 (pc' := 4) (l' := [(0, .ref 0), (1, .int (nI a)), (2, .int (((0 + ((dTr (mD M)) (a * 4 + 0))) + ((dTr (mD M)) (a * 4 + 1))) + ((dTr (mD M)) (a * 4 + 2)))), (3, .int 3)]) (st' := []) (h' := cMo M) (P := True) rfl trivial ?_
  refine gW_b D_Mo_inTray 4 2 (pc' := 6) (l' := [(0, .ref 0), (1, .int (nI a)), (2, .int (((0 + ((dTr (mD M)) (a * 4 + 0))) + ((dTr (mD M)) (a * 4 + 1))) + ((dTr (mD M)) (a * 4 + 2)))), (3, .int 3)]) (st' := [.int 4, .int 3]) (h' := cMo M) (P := True) rfl trivial ?_
  refine gW_ic_ge (gdec_at D_Mo_inTray 6 rfl) (tgt := 24) rfl (fun cq => absurd cq (by decide)) (fun _ => ?_)
  refine gW_b D_Mo_inTray 7 4 (pc' := 13) (l' := [(0, .ref 0), (1, .int (nI a)), (2, .int (((0 + ((dTr (mD M)) (a * 4 + 0))) + ((dTr (mD M)) (a * 4 + 1))) + ((dTr (mD M)) (a * 4 + 2)))), (3, .int 3)]) (st' := [.int 3, .int (nI a), .ref 0, .int (((0 + ((dTr (mD M)) (a * 4 + 0))) + ((dTr (mD M)) (a * 4 + 1))) + ((dTr (mD M)) (a * 4 + 2)))]) (h' := cMo M) (P := True) rfl trivial ?_
  refine gW_callV (n_cubes M a 3 (by omega) (by omega)) lk_Mo_39 [0, 1, 2, 3, 4, 5, 6] (gdec_at D_Mo_inTray 11 rfl) (st := [.int (((0 + ((dTr (mD M)) (a * 4 + 0))) + ((dTr (mD M)) (a * 4 + 1))) + ((dTr (mD M)) (a * 4 + 2)))]) rfl rfl ⟨rfl, rfl⟩ (Nat.le_of_ble_eq_true rfl) rfl (by decide) rfl (Nat.le_of_ble_eq_true rfl) ⟨Nat.le_of_ble_eq_true rfl, Nat.le_of_ble_eq_true rfl⟩ ⟨Nat.le_of_ble_eq_true rfl, Nat.le_of_ble_eq_true rfl⟩ (gAft_r rfl rfl (h' := cMo M) (st' := [.int ((dTr (mD M)) (a * 4 + 3)), .int (((0 + ((dTr (mD M)) (a * 4 + 0))) + ((dTr (mD M)) (a * 4 + 1))) + ((dTr (mD M)) (a * 4 + 2)))]) (pc' := 16) (cs' := 0) (ss' := 0) rfl rfl rfl rfl rfl ?_)
  refine gW_b D_Mo_inTray 12 4 (pc' := 4) (l' := [(0, .ref 0), (1, .int (nI a)), (2, .int ((((0 + ((dTr (mD M)) (a * 4 + 0))) + ((dTr (mD M)) (a * 4 + 1))) + ((dTr (mD M)) (a * 4 + 2))) + ((dTr (mD M)) (a * 4 + 3)))), (3, .int 4)]) (st' := []) (h' := cMo M) (P := True) rfl trivial ?_
  refine gW_b D_Mo_inTray 4 2 (pc' := 6) (l' := [(0, .ref 0), (1, .int (nI a)), (2, .int ((((0 + ((dTr (mD M)) (a * 4 + 0))) + ((dTr (mD M)) (a * 4 + 1))) + ((dTr (mD M)) (a * 4 + 2))) + ((dTr (mD M)) (a * 4 + 3)))), (3, .int 4)]) (st' := [.int 4, .int 4]) (h' := cMo M) (P := True) rfl trivial ?_
  refine gW_ic_ge (gdec_at D_Mo_inTray 6 rfl) (tgt := 24) rfl (fun _ => ?_) (fun cq => absurd (by decide) cq)
  refine gW_b D_Mo_inTray 16 1 (pc' := 25) (l' := [(0, .ref 0), (1, .int (nI a)), (2, .int ((((0 + ((dTr (mD M)) (a * 4 + 0))) + ((dTr (mD M)) (a * 4 + 1))) + ((dTr (mD M)) (a * 4 + 2))) + ((dTr (mD M)) (a * 4 + 3)))), (3, .int 4)]) (st' := [.int ((((0 + ((dTr (mD M)) (a * 4 + 0))) + ((dTr (mD M)) (a * 4 + 1))) + ((dTr (mD M)) (a * 4 + 2))) + ((dTr (mD M)) (a * 4 + 3)))]) (h' := cMo M) (P := True) rfl trivial ?_
  exact gW_iret (gdec_at D_Mo_inTray 17 rfl) rfl rfl (Nat.le_of_ble_eq_true rfl) ⟨rfl, rfl⟩ (Nat.le_of_ble_eq_true rfl) (Nat.le_of_ble_eq_true rfl)
theorem k_tonesIn (M : gMo) (a : Nat) (ha : a < 6) {sc : Nat × (Nat → Int32)} {n0 : Nat} {E : gO → gH → Prop} (kk : gW K_Mo_tonesIn sc { frames := 1, locals := 22, cells := 0, slots := 0 } n0 E 0 0 32 [(0, .ref 0), (1, .int (nI a)), (2, .int (nI (tnc (dTr (mD M)) a 4))), (3, .int (nI 4))] [] (cMo M)) : ∀ (n i : Nat), i + n = 4 → gW K_Mo_tonesIn sc { frames := 1, locals := 22, cells := 0, slots := 0 } n0 E 0 0 4 [(0, .ref 0), (1, .int (nI a)), (2, .int (nI (tnc (dTr (mD M)) a i))), (3, .int (nI i))] [] (cMo M) := by
  intro n
  induction n with
  | zero =>
    intro i hi
    obtain rfl : 4 = i := by omega
    refine gW_b D_Mo_tonesIn 4 2 (pc' := 6) (l' := [(0, .ref 0), (1, .int (nI a)), (2, .int (nI (tnc (dTr (mD M)) a 4))), (3, .int (nI 4))]) (st' := [.int 4, .int (nI 4)]) (h' := cMo M) (P := True) rfl trivial ?_
    refine gW_ic_ge (gdec_at D_Mo_tonesIn 6 rfl) (tgt := 32) rfl (fun _ => ?_) (fun cq => absurd ((gle (gk 4) (rfl : nI 4 = nI 4) (by omega) (by omega)).mpr (by omega)) cq)
    exact kk
  | succ n ih =>
    intro i hi
    refine gW_b D_Mo_tonesIn 4 2 (pc' := 6) (l' := [(0, .ref 0), (1, .int (nI a)), (2, .int (nI (tnc (dTr (mD M)) a i))), (3, .int (nI i))]) (st' := [.int 4, .int (nI i)]) (h' := cMo M) (P := True) rfl trivial ?_
    refine gW_ic_ge (gdec_at D_Mo_tonesIn 6 rfl) (tgt := 32) rfl (fun cq => absurd cq (mt (gle (gk 4) (rfl : nI i = nI i) (by omega) (by omega)).mp (by omega))) (fun _ => ?_)
    have hb := tnc_le (dTr (mD M)) a i
    refine gW_b D_Mo_tonesIn 7 4 (pc' := 13) (l' := [(0, .ref 0), (1, .int (nI a)), (2, .int (nI (tnc (dTr (mD M)) a i))), (3, .int (nI i))]) (st' := [.int (nI i), .int (nI a), .ref 0, .int (nI (tnc (dTr (mD M)) a i))]) (h' := cMo M) (P := True) rfl trivial ?_
    refine gW_callV (n_cubes M a i (by omega) (by omega)) lk_Mo_39 [0, 1, 2, 3, 4, 5, 6] (gdec_at D_Mo_tonesIn 11 rfl) (st := [.int (nI (tnc (dTr (mD M)) a i))]) rfl rfl ⟨rfl, rfl⟩ (Nat.le_of_ble_eq_true rfl) rfl (by decide) rfl (Nat.le_of_ble_eq_true rfl) ⟨Nat.le_of_ble_eq_true rfl, Nat.le_of_ble_eq_true rfl⟩ ⟨Nat.le_of_ble_eq_true rfl, Nat.le_of_ble_eq_true rfl⟩ (gAft_r rfl rfl (h' := cMo M) (st' := [.int ((dTr (mD M)) (a * 4 + i)), .int (nI (tnc (dTr (mD M)) a i))]) (pc' := 16) (cs' := 0) (ss' := 0) rfl rfl rfl rfl rfl ?_)
    refine gW_if_le (gdec_at D_Mo_tonesIn 12 rfl) (tgt := 23) rfl (fun c => ?_) (fun c => ?_)
    · skip
      refine gW_b D_Mo_tonesIn 15 5 (pc' := 4) (l' := [(0, .ref 0), (1, .int (nI a)), (2, .int ((nI (tnc (dTr (mD M)) a i)) + 0)), (3, .int ((nI i) + 1))]) (st' := []) (h' := cMo M) (P := True) rfl trivial ?_
      rw [show (nI (tnc (dTr (mD M)) a i)) + 0 = nI (tnc (dTr (mD M)) a (i + 1)) from by rw [Int32.add_zero, show tnc (dTr (mD M)) a (i + 1) = tnc (dTr (mD M)) a i from if_pos c]]
      rw [show ((nI i) + 1 : Int32) = nI (i + 1) from (gadd (rfl : nI i = nI i) (gk 1))]
      exact ih (i + 1) (by omega)
    · skip
      refine gW_b D_Mo_tonesIn 13 2 (pc' := 24) (l' := [(0, .ref 0), (1, .int (nI a)), (2, .int (nI (tnc (dTr (mD M)) a i))), (3, .int (nI i))]) (st' := [.int 1, .int (nI (tnc (dTr (mD M)) a i))]) (h' := cMo M) (P := True) rfl trivial ?_
      refine gW_b D_Mo_tonesIn 16 4 (pc' := 4) (l' := [(0, .ref 0), (1, .int (nI a)), (2, .int ((nI (tnc (dTr (mD M)) a i)) + 1)), (3, .int ((nI i) + 1))]) (st' := []) (h' := cMo M) (P := True) rfl trivial ?_
      rw [show ((nI (tnc (dTr (mD M)) a i)) + 1 : Int32) = nI ((tnc (dTr (mD M)) a i) + 1) from (gadd (rfl : nI (tnc (dTr (mD M)) a i) = nI (tnc (dTr (mD M)) a i)) (gk 1))]
      rw [show ((nI i) + 1 : Int32) = nI (i + 1) from (gadd (rfl : nI i = nI i) (gk 1))]
      rw [show tnc (dTr (mD M)) a i + 1 = tnc (dTr (mD M)) a (i + 1) from (if_neg c).symm]
      exact ih (i + 1) (by omega)
theorem n_tonesIn (M : gMo) (a : Nat) (ha : a < 6) : gM K_Mo_tonesIn { frames := 1, locals := 22, cells := 0, slots := 0 } [.ref 0, .int (nI a)] (cMo M) (gD (.inl (some (.int (nI (tn (dTr (mD M)) a))))) (cMo M)) := by
  refine gM_of rfl rfl (Nat.le_of_ble_eq_true rfl) (fun sc => ?_)
  refine gW_b D_Mo_tonesIn 0 4 (pc' := 4) (l' := [(0, .ref 0), (1, .int (nI a)), (2, .int 0), (3, .int 0)]) (st' := []) (h' := cMo M) (P := True) rfl trivial ?_
  refine k_tonesIn M a ha ?_ 4 0 rfl
  refine gW_b D_Mo_tonesIn 20 1 (pc' := 33) (l' := [(0, .ref 0), (1, .int (nI a)), (2, .int (nI (tnc (dTr (mD M)) a 4))), (3, .int (nI 4))]) (st' := [.int (nI (tnc (dTr (mD M)) a 4))]) (h' := cMo M) (P := True) rfl trivial ?_
  exact gW_iret (gdec_at D_Mo_tonesIn 21 rfl) rfl rfl (Nat.le_of_ble_eq_true rfl) ⟨rfl, rfl⟩ (Nat.le_of_ble_eq_true rfl) (Nat.le_of_ble_eq_true rfl)
theorem frI_r (f : Nat → Int32) (a : Nat) (r : Int32) : (if 0 ≤ r - hA f a then r - hA f a else 0) = frI f a r := by
  unfold frI
  by_cases h : 0 < r - hA f a
  · rw [if_pos h, if_pos (Int32.le_of_lt h)]
  · rw [if_neg h]
    by_cases h2 : 0 ≤ r - hA f a
    · rw [if_pos h2]
      exact Int32.le_antisymm (Int32.not_lt.mp h) h2
    · rw [if_neg h2]
theorem n_room (M : gMo) (a : Nat) (ha : a < 6) : gM K_Mo_room { frames := 2, locals := 45, cells := 0, slots := 0 } [.ref 0, .int (nI a)] (cMo M) (gD (.inl (some (.int (frI (dTr (mD M)) a (dSt (mD M) 1))))) (cMo M)) := by
  refine gM_of rfl rfl (Nat.le_of_ble_eq_true rfl) (fun sc => ?_)
  refine gW_b D_Mo_room 0 6 (pc' := 9) (l' := [(0, .ref 0), (1, .int (nI a))]) (st' := [.int (nI a), .ref 0, .int ((dSt (mD M)) 1)]) (h' := cMo M) (P := vp_in 29 103 ∧ True) rfl ⟨(gvl 29 103 (by omega) (by omega)), trivial⟩ ?_
  refine gW_callV (n_inTray M a (by omega)) lk_Mo_43 [0, 1, 2, 3, 4, 5, 6] (gdec_at D_Mo_room 6 rfl) (st := [.int ((dSt (mD M)) 1)]) rfl rfl ⟨rfl, rfl⟩ (Nat.le_of_ble_eq_true rfl) rfl (by decide) rfl (Nat.le_of_ble_eq_true rfl) ⟨Nat.le_of_ble_eq_true rfl, Nat.le_of_ble_eq_true rfl⟩ ⟨Nat.le_of_ble_eq_true rfl, Nat.le_of_ble_eq_true rfl⟩ (gAft_r rfl rfl (h' := cMo M) (st' := [.int (hA (dTr (mD M)) a), .int ((dSt (mD M)) 1)]) (pc' := 12) (cs' := 0) (ss' := 0) rfl rfl rfl rfl rfl ?_)
  refine gW_b D_Mo_room 7 3 (pc' := 15) (l' := [(0, .ref 0), (1, .int (nI a)), (2, .int (((dSt (mD M)) 1) - (hA (dTr (mD M)) a)))]) (st' := [.int (((dSt (mD M)) 1) - (hA (dTr (mD M)) a))]) (h' := cMo M) (P := True) rfl trivial ?_
  rw [← frI_r]
  refine gW_if_ge (gdec_at D_Mo_room 10 rfl) (tgt := 22) rfl (fun c => ?_) (fun c => ?_)
  · skip
    refine gW_b D_Mo_room 13 1 (pc' := 23) (l' := [(0, .ref 0), (1, .int (nI a)), (2, .int (((dSt (mD M)) 1) - (hA (dTr (mD M)) a)))]) (st' := [.int (((dSt (mD M)) 1) - (hA (dTr (mD M)) a))]) (h' := cMo M) (P := True) rfl trivial ?_
    rw [if_pos c]
    exact gW_iret (gdec_at D_Mo_room 14 rfl) rfl rfl (Nat.le_of_ble_eq_true rfl) ⟨rfl, rfl⟩ (Nat.le_of_ble_eq_true rfl) (Nat.le_of_ble_eq_true rfl)
  · skip
    refine gW_b D_Mo_room 11 2 (pc' := 23) (l' := [(0, .ref 0), (1, .int (nI a)), (2, .int (((dSt (mD M)) 1) - (hA (dTr (mD M)) a)))]) (st' := [.int 0]) (h' := cMo M) (P := True) rfl trivial ?_
    rw [if_neg c]
    exact gW_iret (gdec_at D_Mo_room 14 rfl) rfl rfl (Nat.le_of_ble_eq_true rfl) ⟨rfl, rfl⟩ (Nat.le_of_ble_eq_true rfl) (Nat.le_of_ble_eq_true rfl)
theorem pmI_r (f : Nat → Int32) (a t : Nat) (r : Int32) : (if r ≤ f (a * 4 + t) then r else f (a * 4 + t)) = pmI f a t r := by
  unfold pmI
  by_cases h : r < f (a * 4 + t)
  · rw [if_pos h, if_pos (Int32.le_of_lt h)]
  · rw [if_neg h]
    by_cases h2 : r ≤ f (a * 4 + t)
    · rw [if_pos h2]
      exact Int32.le_antisymm h2 (Int32.not_lt.mp h)
    · rw [if_neg h2]
def prD (D : gDom) (a b t : Nat) (m : Int32) : gDom := setTr D (pourF (dTr D) a b t m)
abbrev prM (D : gDom) (a b t : Nat) : Int32 := pmI (dTr D) a t (frI (dTr D) b (dSt D 1))
theorem k_pour (M : gMo) (a b t : Nat) (v : Int32) (ha : a < 6) (hb : b < 6) (ht : t < 4) {sc : Nat × (Nat → Int32)} {n0 : Nat} (hn0 : n0 ≤ 7) : gW K_Mo_pour sc { frames := 3, locals := 67, cells := 0, slots := 0 } n0 (gD (.inl (some (.int v))) (cMo (wD M (prD (mD M) a b t v)))) 0 0 30 [(0, .ref 0), (1, .int (nI a)), (2, .int (nI b)), (3, .int (nI t)), (4, .int v)] [] (cMo M) := by
  refine gW_b D_Mo_pour 17 11 (pc' := 43) (l' := [(0, .ref 0), (1, .int (nI a)), (2, .int (nI b)), (3, .int (nI t)), (4, .int v)]) (st' := [.int (zD (mD M) ((4 + (4 * (nI a))) + (nI t)).toNatClampNeg), .int ((4 + (4 * (nI a))) + (nI t)), .ref 1]) (h' := cMo M) (P := vp_in ((4 + (4 * (nI a))) + (nI t)) 103 ∧ True) rfl ⟨(gvin (gadd (gadd (gk 4) (gmul (gk 4) (rfl : nI a = nI a))) (rfl : nI t = nI t)) (by omega) (by omega)), trivial⟩ ?_
  rw [show ((4 + (4 * (nI a))) + (nI t)).toNatClampNeg = ((4 + (4 * a)) + t) from gclp (gadd (gadd (gk 4) (gmul (gk 4) (rfl : nI a = nI a))) (rfl : nI t = nI t)) (by omega)]
  rw [show (zD (mD M) ((4 + (4 * a)) + t) : Int32) = (dTr (mD M)) (a * 4 + t) from zr_tr (mD M) a t (by omega) (by omega)]
  refine gW_b D_Mo_pour 28 3 (pc' := 47) (l' := [(0, .ref 0), (1, .int (nI a)), (2, .int (nI b)), (3, .int (nI t)), (4, .int v)]) (st' := []) (h' := [cO 6 [.int (mTh M), .ref 1, .ref 2, .int (nI (mN M)), .ref 3, .ref 4, .int (nI (mTy M)), .ref 5, .int (nI (mSt M)), .ref 6, .int (nI (mPm M)), .int (nI (mSpt M)), .int (mWr M), .long (mHs M)], cI 103 (upd (zD (mD M)) (((4 + (4 * (nI a))) + (nI t)).toNatClampNeg) (((dTr (mD M)) (a * 4 + t)) - v)), cI 618 (svF (mDs M)), cI 103 (zD (mSp M)), cI 60 (mBf M), cI 10 (oF (mOd M)), cI 39 (mPa M)]) (P := vp_in ((4 + (4 * (nI a))) + (nI t)) 103 ∧ True) rfl ⟨(gvin (gadd (gadd (gk 4) (gmul (gk 4) (rfl : nI a = nI a))) (rfl : nI t = nI t)) (by omega) (by omega)), trivial⟩ ?_
  rw [show ((4 + (4 * (nI a))) + (nI t)).toNatClampNeg = ((4 + (4 * a)) + t) from gclp (gadd (gadd (gk 4) (gmul (gk 4) (rfl : nI a = nI a))) (rfl : nI t = nI t)) (by omega)]
  rw [show upd (zD (mD M)) ((4 + (4 * a)) + t) (((dTr (mD M)) (a * 4 + t)) - v) = zD (upd (dTr (mD M)) (a * 4 + t) (((dTr (mD M)) (a * 4 + t)) - v), dG (mD M), dSz (mD M), dC (mD M), dSt (mD M), dSh (mD M), dCu (mD M), dLa (mD M), dSw (mD M), dDy (mD M), dDn (mD M), dLt (mD M), dLd (mD M), dSo (mD M)) from zu_tr (mD M) a t (by omega) (by omega) (((dTr (mD M)) (a * 4 + t)) - v)]
  refine gW_b D_Mo_pour 31 11 (pc' := 60) (l' := [(0, .ref 0), (1, .int (nI a)), (2, .int (nI b)), (3, .int (nI t)), (4, .int v)]) (st' := [.int (zD (upd (dTr (mD M)) (a * 4 + t) (((dTr (mD M)) (a * 4 + t)) - v), dG (mD M), dSz (mD M), dC (mD M), dSt (mD M), dSh (mD M), dCu (mD M), dLa (mD M), dSw (mD M), dDy (mD M), dDn (mD M), dLt (mD M), dLd (mD M), dSo (mD M)) ((4 + (4 * (nI b))) + (nI t)).toNatClampNeg), .int ((4 + (4 * (nI b))) + (nI t)), .ref 1]) (h' := cMo (wD M (upd (dTr (mD M)) (a * 4 + t) (((dTr (mD M)) (a * 4 + t)) - v), dG (mD M), dSz (mD M), dC (mD M), dSt (mD M), dSh (mD M), dCu (mD M), dLa (mD M), dSw (mD M), dDy (mD M), dDn (mD M), dLt (mD M), dLd (mD M), dSo (mD M)))) (P := vp_in ((4 + (4 * (nI b))) + (nI t)) 103 ∧ True) rfl ⟨(gvin (gadd (gadd (gk 4) (gmul (gk 4) (rfl : nI b = nI b))) (rfl : nI t = nI t)) (by omega) (by omega)), trivial⟩ ?_
  rw [show ((4 + (4 * (nI b))) + (nI t)).toNatClampNeg = ((4 + (4 * b)) + t) from gclp (gadd (gadd (gk 4) (gmul (gk 4) (rfl : nI b = nI b))) (rfl : nI t = nI t)) (by omega)]
  rw [show (zD (upd (dTr (mD M)) (a * 4 + t) (((dTr (mD M)) (a * 4 + t)) - v), dG (mD M), dSz (mD M), dC (mD M), dSt (mD M), dSh (mD M), dCu (mD M), dLa (mD M), dSw (mD M), dDy (mD M), dDn (mD M), dLt (mD M), dLd (mD M), dSo (mD M)) ((4 + (4 * b)) + t) : Int32) = (upd (dTr (mD M)) (a * 4 + t) (((dTr (mD M)) (a * 4 + t)) - v)) (b * 4 + t) from zr_tr (upd (dTr (mD M)) (a * 4 + t) (((dTr (mD M)) (a * 4 + t)) - v), dG (mD M), dSz (mD M), dC (mD M), dSt (mD M), dSh (mD M), dCu (mD M), dLa (mD M), dSw (mD M), dDy (mD M), dDn (mD M), dLt (mD M), dLd (mD M), dSo (mD M)) b t (by omega) (by omega)]
  refine gW_b D_Mo_pour 42 3 (pc' := 64) (l' := [(0, .ref 0), (1, .int (nI a)), (2, .int (nI b)), (3, .int (nI t)), (4, .int v)]) (st' := []) (h' := [cO 6 [.int (mTh M), .ref 1, .ref 2, .int (nI (mN M)), .ref 3, .ref 4, .int (nI (mTy M)), .ref 5, .int (nI (mSt M)), .ref 6, .int (nI (mPm M)), .int (nI (mSpt M)), .int (mWr M), .long (mHs M)], cI 103 (upd (zD (upd (dTr (mD M)) (a * 4 + t) (((dTr (mD M)) (a * 4 + t)) - v), dG (mD M), dSz (mD M), dC (mD M), dSt (mD M), dSh (mD M), dCu (mD M), dLa (mD M), dSw (mD M), dDy (mD M), dDn (mD M), dLt (mD M), dLd (mD M), dSo (mD M))) (((4 + (4 * (nI b))) + (nI t)).toNatClampNeg) (((upd (dTr (mD M)) (a * 4 + t) (((dTr (mD M)) (a * 4 + t)) - v)) (b * 4 + t)) + v)), cI 618 (svF (mDs M)), cI 103 (zD (mSp M)), cI 60 (mBf M), cI 10 (oF (mOd M)), cI 39 (mPa M)]) (P := vp_in ((4 + (4 * (nI b))) + (nI t)) 103 ∧ True) rfl ⟨(gvin (gadd (gadd (gk 4) (gmul (gk 4) (rfl : nI b = nI b))) (rfl : nI t = nI t)) (by omega) (by omega)), trivial⟩ ?_
  rw [show ((4 + (4 * (nI b))) + (nI t)).toNatClampNeg = ((4 + (4 * b)) + t) from gclp (gadd (gadd (gk 4) (gmul (gk 4) (rfl : nI b = nI b))) (rfl : nI t = nI t)) (by omega)]
  rw [show upd (zD (upd (dTr (mD M)) (a * 4 + t) (((dTr (mD M)) (a * 4 + t)) - v), dG (mD M), dSz (mD M), dC (mD M), dSt (mD M), dSh (mD M), dCu (mD M), dLa (mD M), dSw (mD M), dDy (mD M), dDn (mD M), dLt (mD M), dLd (mD M), dSo (mD M))) ((4 + (4 * b)) + t) (((upd (dTr (mD M)) (a * 4 + t) (((dTr (mD M)) (a * 4 + t)) - v)) (b * 4 + t)) + v) = zD (upd (upd (dTr (mD M)) (a * 4 + t) (((dTr (mD M)) (a * 4 + t)) - v)) (b * 4 + t) (((upd (dTr (mD M)) (a * 4 + t) (((dTr (mD M)) (a * 4 + t)) - v)) (b * 4 + t)) + v), dG (mD M), dSz (mD M), dC (mD M), dSt (mD M), dSh (mD M), dCu (mD M), dLa (mD M), dSw (mD M), dDy (mD M), dDn (mD M), dLt (mD M), dLd (mD M), dSo (mD M)) from zu_tr (upd (dTr (mD M)) (a * 4 + t) (((dTr (mD M)) (a * 4 + t)) - v), dG (mD M), dSz (mD M), dC (mD M), dSt (mD M), dSh (mD M), dCu (mD M), dLa (mD M), dSw (mD M), dDy (mD M), dDn (mD M), dLt (mD M), dLd (mD M), dSo (mD M)) b t (by omega) (by omega) (((upd (dTr (mD M)) (a * 4 + t) (((dTr (mD M)) (a * 4 + t)) - v)) (b * 4 + t)) + v)]
  refine gW_b D_Mo_pour 45 1 (pc' := 66) (l' := [(0, .ref 0), (1, .int (nI a)), (2, .int (nI b)), (3, .int (nI t)), (4, .int v)]) (st' := [.int v]) (h' := cMo (wD M (upd (upd (dTr (mD M)) (a * 4 + t) (((dTr (mD M)) (a * 4 + t)) - v)) (b * 4 + t) (((upd (dTr (mD M)) (a * 4 + t) (((dTr (mD M)) (a * 4 + t)) - v)) (b * 4 + t)) + v), dG (mD M), dSz (mD M), dC (mD M), dSt (mD M), dSh (mD M), dCu (mD M), dLa (mD M), dSw (mD M), dDy (mD M), dDn (mD M), dLt (mD M), dLd (mD M), dSo (mD M)))) (P := True) rfl trivial ?_
  exact gW_iret (gdec_at D_Mo_pour 46 rfl) rfl rfl hn0 ⟨rfl, by unfold prD pourF; rw [← Int32.sub_eq_add_neg]; rfl⟩ (Nat.le_of_ble_eq_true rfl) (Nat.le_of_ble_eq_true rfl)
theorem n_pour (M : gMo) (a b t : Nat) (ha : a < 6) (hb : b < 6) (ht : t < 4) : gM K_Mo_pour { frames := 3, locals := 67, cells := 0, slots := 0 } [.ref 0, .int (nI a), .int (nI b), .int (nI t)] (cMo M) (gD (.inl (some (.int (prM (mD M) a b t)))) (cMo (wD M (prD (mD M) a b t (prM (mD M) a b t))))) := by
  refine gM_of rfl rfl (Nat.le_of_ble_eq_true rfl) (fun sc => ?_)
  refine gW_b D_Mo_pour 0 3 (pc' := 3) (l' := [(0, .ref 0), (1, .int (nI a)), (2, .int (nI b)), (3, .int (nI t))]) (st' := [.int (nI t), .int (nI a), .ref 0]) (h' := cMo M) (P := True) rfl trivial ?_
  refine gW_callV (n_cubes M a t (by omega) (by omega)) lk_Mo_39 [0, 1, 2, 3, 4, 5, 6] (gdec_at D_Mo_pour 3 rfl) (st := []) rfl rfl ⟨rfl, rfl⟩ (Nat.le_of_ble_eq_true rfl) rfl (by decide) rfl (Nat.le_of_ble_eq_true rfl) ⟨Nat.le_of_ble_eq_true rfl, Nat.le_of_ble_eq_true rfl⟩ ⟨Nat.le_of_ble_eq_true rfl, Nat.le_of_ble_eq_true rfl⟩ (gAft_r rfl rfl (h' := cMo M) (st' := [.int ((dTr (mD M)) (a * 4 + t))]) (pc' := 6) (cs' := 0) (ss' := 0) rfl rfl rfl rfl rfl ?_)
  refine gW_b D_Mo_pour 4 2 (pc' := 8) (l' := [(0, .ref 0), (1, .int (nI a)), (2, .int (nI b)), (3, .int (nI t))]) (st' := [.int (nI b), .ref 0, .int ((dTr (mD M)) (a * 4 + t))]) (h' := cMo M) (P := True) rfl trivial ?_
  refine gW_callV (n_room M b (by omega)) lk_Mo_47 [0, 1, 2, 3, 4, 5, 6] (gdec_at D_Mo_pour 6 rfl) (st := [.int ((dTr (mD M)) (a * 4 + t))]) rfl rfl ⟨rfl, rfl⟩ (Nat.le_of_ble_eq_true rfl) rfl (by decide) rfl (Nat.le_of_ble_eq_true rfl) ⟨Nat.le_of_ble_eq_true rfl, Nat.le_of_ble_eq_true rfl⟩ ⟨Nat.le_of_ble_eq_true rfl, Nat.le_of_ble_eq_true rfl⟩ (gAft_r rfl rfl (h' := cMo M) (st' := [.int (frI (dTr (mD M)) b (dSt (mD M) 1)), .int ((dTr (mD M)) (a * 4 + t))]) (pc' := 11) (cs' := 0) (ss' := 0) rfl rfl rfl rfl rfl ?_)
  rw [show prM (mD M) a b t = if frI (dTr (mD M)) b (dSt (mD M) 1) ≤ dTr (mD M) (a * 4 + t) then frI (dTr (mD M)) b (dSt (mD M) 1) else dTr (mD M) (a * 4 + t) from (pmI_r _ _ _ _).symm]
  refine gW_ic_ge (gdec_at D_Mo_pour 7 rfl) (tgt := 23) rfl (fun c => ?_) (fun c => ?_)
  · skip
    refine gW_b D_Mo_pour 13 2 (pc' := 25) (l' := [(0, .ref 0), (1, .int (nI a)), (2, .int (nI b)), (3, .int (nI t))]) (st' := [.int (nI b), .ref 0]) (h' := cMo M) (P := True) rfl trivial ?_
    refine gW_callV (n_room M b (by omega)) lk_Mo_47 [0, 1, 2, 3, 4, 5, 6] (gdec_at D_Mo_pour 15 rfl) (st := []) rfl rfl ⟨rfl, rfl⟩ (Nat.le_of_ble_eq_true rfl) rfl (by decide) rfl (Nat.le_of_ble_eq_true rfl) ⟨Nat.le_of_ble_eq_true rfl, Nat.le_of_ble_eq_true rfl⟩ ⟨Nat.le_of_ble_eq_true rfl, Nat.le_of_ble_eq_true rfl⟩ (gAft_r rfl rfl (h' := cMo M) (st' := [.int (frI (dTr (mD M)) b (dSt (mD M) 1))]) (pc' := 28) (cs' := 0) (ss' := 0) rfl rfl rfl rfl rfl ?_)
    refine gW_b D_Mo_pour 16 1 (pc' := 30) (l' := [(0, .ref 0), (1, .int (nI a)), (2, .int (nI b)), (3, .int (nI t)), (4, .int (frI (dTr (mD M)) b (dSt (mD M) 1)))]) (st' := []) (h' := cMo M) (P := True) rfl trivial ?_
    rw [if_pos c]
    exact k_pour M a b t _ ha hb ht (Nat.le_of_ble_eq_true rfl)
  · skip
    refine gW_b D_Mo_pour 8 3 (pc' := 17) (l' := [(0, .ref 0), (1, .int (nI a)), (2, .int (nI b)), (3, .int (nI t))]) (st' := [.int (nI t), .int (nI a), .ref 0]) (h' := cMo M) (P := True) rfl trivial ?_
    refine gW_callV (n_cubes M a t (by omega) (by omega)) lk_Mo_39 [0, 1, 2, 3, 4, 5, 6] (gdec_at D_Mo_pour 11 rfl) (st := []) rfl rfl ⟨rfl, rfl⟩ (Nat.le_of_ble_eq_true rfl) rfl (by decide) rfl (Nat.le_of_ble_eq_true rfl) ⟨Nat.le_of_ble_eq_true rfl, Nat.le_of_ble_eq_true rfl⟩ ⟨Nat.le_of_ble_eq_true rfl, Nat.le_of_ble_eq_true rfl⟩ (gAft_r rfl rfl (h' := cMo M) (st' := [.int ((dTr (mD M)) (a * 4 + t))]) (pc' := 20) (cs' := 0) (ss' := 0) rfl rfl rfl rfl rfl ?_)
    refine gW_b D_Mo_pour 12 1 (pc' := 28) (l' := [(0, .ref 0), (1, .int (nI a)), (2, .int (nI b)), (3, .int (nI t))]) (st' := [.int ((dTr (mD M)) (a * 4 + t))]) (h' := cMo M) (P := True) rfl trivial ?_
    refine gW_b D_Mo_pour 16 1 (pc' := 30) (l' := [(0, .ref 0), (1, .int (nI a)), (2, .int (nI b)), (3, .int (nI t)), (4, .int ((dTr (mD M)) (a * 4 + t)))]) (st' := []) (h' := cMo M) (P := True) rfl trivial ?_
    rw [if_neg c]
    exact k_pour M a b t _ ha hb ht (Nat.le_of_ble_eq_true rfl)
