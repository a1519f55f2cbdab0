/-! THE REFERENCE's methods: a day. Printed by wip/whole/meths15.py -/
theorem n_takeOut2 (M : gMo) (p : Nat) (hp : p < dSz (mD M)) (hs : dSz (mD M) ≤ 10) : gM K_Mo_takeOut { frames := 0, locals := 0, cells := 0, slots := 0 } [.ref 0, .int (nI p)] (cMo M) (gD (.inl none) (cMo (wD M (toD (mD M) p (dSz (mD M) - 1))))) := by
  obtain ⟨th, ⟨f, g, sz, D4⟩, M3⟩ := M
  have hp' : p < sz := hp
  have hs' : sz ≤ 10 := hs
  obtain ⟨m, rfl⟩ : ∃ m, sz = m + 1 := ⟨sz - 1, by omega⟩
  exact n_takeOut (th, (f, g, 0, D4), M3) p m (by omega) (by omega)
theorem n_drop (M : gMo) (hn : mN M ≤ 6) (x : Int32) (p t : Nat) (hs : dSz (mD M) ≤ 10) (hp : p < dSz (mD M)) (hpl : plL (dG (mD M)) x (dSz (mD M)) = nI p) (hT : dG (mD M) (p * 5 + 1) = nI t) (ht : t < 4) : gM K_Mo_drop { frames := 2, locals := 45, cells := 0, slots := 0 } [.ref 0, .int x] (cMo M) (gD (.inl (some (.int (dG (mD M) (p * 5 + 4))))) (cMo (wN (wDs (wD (wTh M 0) (toD (dTr (mD M), dG (mD M), dSz (mD M), dC (mD M), dSt (mD M), dSh (mD M), dCu (mD M), upd (dLa (mD M)) t (dLa (mD M) t - dG (mD M) (p * 5 + 4)), upd (dSw (mD M)) t (dSw (mD M) t + dG (mD M) (p * 5 + 4)), dDy (mD M), dDn (mD M), dLt (mD M), dLd (mD M), dSo (mD M)) p (dSz (mD M) - 1))) (svDs (mN M) (mDs M) (mD M))) (svN (mN M))))) := by
  refine gM_of rfl rfl (Nat.le_of_ble_eq_true rfl) (fun sc => ?_)
  refine gW_b D_Mo_drop 0 2 (pc' := 2) (l' := [(0, .ref 0), (1, .int x)]) (st' := [.int x, .ref 0]) (h' := cMo M) (P := True) rfl trivial ?_
  refine gW_callV (n_placeOf M x (by assumption)) lk_Mo_78 [0, 1, 2, 3, 4, 5, 6] (gdec_at D_Mo_drop 2 rfl) (st := []) rfl rfl ⟨rfl, rfl⟩ (Nat.le_of_ble_eq_true rfl) rfl (by decide) rfl (Nat.le_of_ble_eq_true rfl) ⟨Nat.le_of_ble_eq_true rfl, Nat.le_of_ble_eq_true rfl⟩ ⟨Nat.le_of_ble_eq_true rfl, Nat.le_of_ble_eq_true rfl⟩ (gAft_r rfl rfl (h' := cMo M) (st' := [.int (plL (dG (mD M)) x (dSz (mD M)))]) (pc' := 5) (cs' := 0) (ss' := 0) rfl rfl rfl rfl rfl ?_)
  rw [hpl]
  refine gW_b D_Mo_drop 3 4 (pc' := 9) (l' := [(0, .ref 0), (1, .int x), (2, .int (nI p))]) (st' := [.int (-1), .int (nI p), .ref 0]) (h' := cMo M) (P := True) rfl trivial ?_
  refine gW_ic_ne (gdec_at D_Mo_drop 7 rfl) (tgt := 16) rfl (fun _ => ?_) (fun cq => absurd cq (nI_ne_m1 (by omega)))
  refine gW_b D_Mo_drop 10 4 (pc' := 24) (l' := [(0, .ref 0), (1, .int x), (2, .int (nI p))]) (st' := [.int 0]) (h' := cMo (wTh M 0)) (P := True) rfl trivial ?_
  refine gW_if_le (gdec_at D_Mo_drop 14 rfl) (tgt := 29) rfl (fun _ => ?_) (fun cq => absurd (by decide) cq)
  refine gW_b D_Mo_drop 17 1 (pc' := 30) (l' := [(0, .ref 0), (1, .int x), (2, .int (nI p))]) (st' := [.ref 0]) (h' := cMo (wTh M 0)) (P := True) rfl trivial ?_
  refine gW_callV (n_save (wTh M 0) (by first | assumption | omega) ) lk_Mo_62 [0, 1, 2, 3, 4, 5, 6] (gdec_at D_Mo_drop 18 rfl) (st := []) rfl rfl ⟨rfl, rfl⟩ (Nat.le_of_ble_eq_true rfl) rfl (by decide) rfl (Nat.le_of_ble_eq_true rfl) ⟨Nat.le_of_ble_eq_true rfl, Nat.le_of_ble_eq_true rfl⟩ ⟨Nat.le_of_ble_eq_true rfl, Nat.le_of_ble_eq_true rfl⟩ (gAft_r rfl rfl (h' := cMo (wN (wDs (wTh M 0) (svDs (mN M) (mDs M) (mD M))) (svN (mN M)))) (st' := []) (pc' := 33) (cs' := 0) (ss' := 0) rfl rfl rfl rfl rfl ?_)
  refine gW_b D_Mo_drop 19 3 (pc' := 36) (l' := [(0, .ref 0), (1, .int x), (2, .int (nI p))]) (st' := [.int 4, .int (nI p), .ref 0]) (h' := cMo (wN (wDs (wTh M 0) (svDs (mN M) (mDs M) (mD M))) (svN (mN M)))) (P := True) rfl trivial ?_
  refine gW_callV (n_its (wN (wDs (wTh M 0) (svDs (mN M) (mDs M) (mD M))) (svN (mN M))) p 4 (by omega) (by omega)) lk_Mo_75 [0, 1, 2, 3, 4, 5, 6] (gdec_at D_Mo_drop 22 rfl) (st := []) rfl rfl ⟨rfl, rfl⟩ (Nat.le_of_ble_eq_true rfl) rfl (by decide) rfl (Nat.le_of_ble_eq_true rfl) ⟨Nat.le_of_ble_eq_true rfl, Nat.le_of_ble_eq_true rfl⟩ ⟨Nat.le_of_ble_eq_true rfl, Nat.le_of_ble_eq_true rfl⟩ (gAft_r rfl rfl (h' := cMo (wN (wDs (wTh M 0) (svDs (mN M) (mDs M) (mD M))) (svN (mN M)))) (st' := [.int ((dG (mD M)) (p * 5 + 4))]) (pc' := 39) (cs' := 0) (ss' := 0) rfl rfl rfl rfl rfl ?_)
  refine gW_b D_Mo_drop 23 7 (pc' := 49) (l' := [(0, .ref 0), (1, .int x), (2, .int (nI p)), (3, .int ((dG (mD M)) (p * 5 + 4)))]) (st' := [.int 1, .int (nI p), .ref 0, .int 47, .ref 1]) (h' := cMo (wN (wDs (wTh M 0) (svDs (mN M) (mDs M) (mD M))) (svN (mN M)))) (P := True) rfl trivial ?_
  refine gW_callV (n_its (wN (wDs (wTh M 0) (svDs (mN M) (mDs M) (mD M))) (svN (mN M))) p 1 (by omega) (by omega)) lk_Mo_75 [0, 1, 2, 3, 4, 5, 6] (gdec_at D_Mo_drop 30 rfl) (st := [.int 47, .ref 1]) rfl rfl ⟨rfl, rfl⟩ (Nat.le_of_ble_eq_true rfl) rfl (by decide) rfl (Nat.le_of_ble_eq_true rfl) ⟨Nat.le_of_ble_eq_true rfl, Nat.le_of_ble_eq_true rfl⟩ ⟨Nat.le_of_ble_eq_true rfl, Nat.le_of_ble_eq_true rfl⟩ (gAft_r rfl rfl (h' := cMo (wN (wDs (wTh M 0) (svDs (mN M) (mDs M) (mD M))) (svN (mN M)))) (st' := [.int ((dG (mD M)) (p * 5 + 1)), .int 47, .ref 1]) (pc' := 52) (cs' := 0) (ss' := 0) rfl rfl rfl rfl rfl ?_)
  refine gW_b D_Mo_drop 31 3 (pc' := 55) (l' := [(0, .ref 0), (1, .int x), (2, .int (nI p)), (3, .int ((dG (mD M)) (p * 5 + 4)))]) (st' := [.int (zD (mD M) (47 + ((dG (mD M)) (p * 5 + 1))).toNatClampNeg), .int (47 + ((dG (mD M)) (p * 5 + 1))), .ref 1]) (h' := cMo (wN (wDs (wTh M 0) (svDs (mN M) (mDs M) (mD M))) (svN (mN M)))) (P := vp_in (47 + ((dG (mD M)) (p * 5 + 1))) 103 ∧ True) rfl ⟨(gvin (gadd (gk 47) hT) (by omega) (by omega)), trivial⟩ ?_
  rw [show (47 + ((dG (mD M)) (p * 5 + 1))).toNatClampNeg = (47 + t) from gclp (gadd (gk 47) hT) (by omega)]
  rw [show (zD (mD M) (47 + t) : Int32) = (dLa (mD M)) (t) from zr_la (mD M) t (by omega)]
  refine gW_b D_Mo_drop 34 3 (pc' := 58) (l' := [(0, .ref 0), (1, .int x), (2, .int (nI p)), (3, .int ((dG (mD M)) (p * 5 + 4)))]) (st' := []) (h' := [cO 6 [.int 0, .ref 1, .ref 2, .int (nI (svN (mN M))), .ref 3, .ref 4, .int (nI (mTy M)), .ref 5, .int (nI (mSt M)), .ref 6, .int (nI (mPm M)), .int (nI (mSpt M)), .int (mWr M), .long (mHs M)], cI 103 (upd (zD (mD M)) ((47 + ((dG (mD M)) (p * 5 + 1))).toNatClampNeg) (((dLa (mD M)) (t)) - ((dG (mD M)) (p * 5 + 4)))), cI 618 (svF (svDs (mN M) (mDs M) (mD M))), cI 103 (zD (mSp M)), cI 60 (mBf M), cI 10 (oF (mOd M)), cI 39 (mPa M)]) (P := vp_in (47 + ((dG (mD M)) (p * 5 + 1))) 103 ∧ True) rfl ⟨(gvin (gadd (gk 47) hT) (by omega) (by omega)), trivial⟩ ?_
  rw [show (47 + ((dG (mD M)) (p * 5 + 1))).toNatClampNeg = (47 + t) from gclp (gadd (gk 47) hT) (by omega)]
  rw [show upd (zD (mD M)) (47 + t) (((dLa (mD M)) (t)) - ((dG (mD M)) (p * 5 + 4))) = zD (dTr (mD M), dG (mD M), dSz (mD M), dC (mD M), dSt (mD M), dSh (mD M), dCu (mD M), upd (dLa (mD M)) t (((dLa (mD M)) (t)) - ((dG (mD M)) (p * 5 + 4))), dSw (mD M), dDy (mD M), dDn (mD M), dLt (mD M), dLd (mD M), dSo (mD M)) from zu_la (mD M) t (by omega) (((dLa (mD M)) (t)) - ((dG (mD M)) (p * 5 + 4)))]
  refine gW_b D_Mo_drop 37 6 (pc' := 67) (l' := [(0, .ref 0), (1, .int x), (2, .int (nI p)), (3, .int ((dG (mD M)) (p * 5 + 4)))]) (st' := [.int 1, .int (nI p), .ref 0, .int 43, .ref 1]) (h' := cMo (wN (wDs (wD (wTh M 0) (dTr (mD M), dG (mD M), dSz (mD M), dC (mD M), dSt (mD M), dSh (mD M), dCu (mD M), upd (dLa (mD M)) t (((dLa (mD M)) (t)) - ((dG (mD M)) (p * 5 + 4))), dSw (mD M), dDy (mD M), dDn (mD M), dLt (mD M), dLd (mD M), dSo (mD M))) (svDs (mN M) (mDs M) (mD M))) (svN (mN M)))) (P := True) rfl trivial ?_
  refine gW_callV (n_its (wN (wDs (wD (wTh M 0) (dTr (mD M), dG (mD M), dSz (mD M), dC (mD M), dSt (mD M), dSh (mD M), dCu (mD M), upd (dLa (mD M)) t (((dLa (mD M)) (t)) - ((dG (mD M)) (p * 5 + 4))), dSw (mD M), dDy (mD M), dDn (mD M), dLt (mD M), dLd (mD M), dSo (mD M))) (svDs (mN M) (mDs M) (mD M))) (svN (mN M))) p 1 (by omega) (by omega)) lk_Mo_75 [0, 1, 2, 3, 4, 5, 6] (gdec_at D_Mo_drop 43 rfl) (st := [.int 43, .ref 1]) rfl rfl ⟨rfl, rfl⟩ (Nat.le_of_ble_eq_true rfl) rfl (by decide) rfl (Nat.le_of_ble_eq_true rfl) ⟨Nat.le_of_ble_eq_true rfl, Nat.le_of_ble_eq_true rfl⟩ ⟨Nat.le_of_ble_eq_true rfl, Nat.le_of_ble_eq_true rfl⟩ (gAft_r rfl rfl (h' := cMo (wN (wDs (wD (wTh M 0) (dTr (mD M), dG (mD M), dSz (mD M), dC (mD M), dSt (mD M), dSh (mD M), dCu (mD M), upd (dLa (mD M)) t (((dLa (mD M)) (t)) - ((dG (mD M)) (p * 5 + 4))), dSw (mD M), dDy (mD M), dDn (mD M), dLt (mD M), dLd (mD M), dSo (mD M))) (svDs (mN M) (mDs M) (mD M))) (svN (mN M)))) (st' := [.int ((dG (mD M)) (p * 5 + 1)), .int 43, .ref 1]) (pc' := 70) (cs' := 0) (ss' := 0) rfl rfl rfl rfl rfl ?_)
  refine gW_b D_Mo_drop 44 3 (pc' := 73) (l' := [(0, .ref 0), (1, .int x), (2, .int (nI p)), (3, .int ((dG (mD M)) (p * 5 + 4)))]) (st' := [.int (zD (dTr (mD M), dG (mD M), dSz (mD M), dC (mD M), dSt (mD M), dSh (mD M), dCu (mD M), upd (dLa (mD M)) t (((dLa (mD M)) (t)) - ((dG (mD M)) (p * 5 + 4))), dSw (mD M), dDy (mD M), dDn (mD M), dLt (mD M), dLd (mD M), dSo (mD M)) (43 + ((dG (mD M)) (p * 5 + 1))).toNatClampNeg), .int (43 + ((dG (mD M)) (p * 5 + 1))), .ref 1]) (h' := cMo (wN (wDs (wD (wTh M 0) (dTr (mD M), dG (mD M), dSz (mD M), dC (mD M), dSt (mD M), dSh (mD M), dCu (mD M), upd (dLa (mD M)) t (((dLa (mD M)) (t)) - ((dG (mD M)) (p * 5 + 4))), dSw (mD M), dDy (mD M), dDn (mD M), dLt (mD M), dLd (mD M), dSo (mD M))) (svDs (mN M) (mDs M) (mD M))) (svN (mN M)))) (P := vp_in (43 + ((dG (mD M)) (p * 5 + 1))) 103 ∧ True) rfl ⟨(gvin (gadd (gk 43) hT) (by omega) (by omega)), trivial⟩ ?_
  rw [show (43 + ((dG (mD M)) (p * 5 + 1))).toNatClampNeg = (43 + t) from gclp (gadd (gk 43) hT) (by omega)]
  rw [show (zD (dTr (mD M), dG (mD M), dSz (mD M), dC (mD M), dSt (mD M), dSh (mD M), dCu (mD M), upd (dLa (mD M)) t (((dLa (mD M)) (t)) - ((dG (mD M)) (p * 5 + 4))), dSw (mD M), dDy (mD M), dDn (mD M), dLt (mD M), dLd (mD M), dSo (mD M)) (43 + t) : Int32) = (dSw (mD M)) (t) from zr_sw (dTr (mD M), dG (mD M), dSz (mD M), dC (mD M), dSt (mD M), dSh (mD M), dCu (mD M), upd (dLa (mD M)) t (((dLa (mD M)) (t)) - ((dG (mD M)) (p * 5 + 4))), dSw (mD M), dDy (mD M), dDn (mD M), dLt (mD M), dLd (mD M), dSo (mD M)) t (by omega)]
  refine gW_b D_Mo_drop 47 3 (pc' := 76) (l' := [(0, .ref 0), (1, .int x), (2, .int (nI p)), (3, .int ((dG (mD M)) (p * 5 + 4)))]) (st' := []) (h' := [cO 6 [.int 0, .ref 1, .ref 2, .int (nI (svN (mN M))), .ref 3, .ref 4, .int (nI (mTy M)), .ref 5, .int (nI (mSt M)), .ref 6, .int (nI (mPm M)), .int (nI (mSpt M)), .int (mWr M), .long (mHs M)], cI 103 (upd (zD (dTr (mD M), dG (mD M), dSz (mD M), dC (mD M), dSt (mD M), dSh (mD M), dCu (mD M), upd (dLa (mD M)) t (((dLa (mD M)) (t)) - ((dG (mD M)) (p * 5 + 4))), dSw (mD M), dDy (mD M), dDn (mD M), dLt (mD M), dLd (mD M), dSo (mD M))) ((43 + ((dG (mD M)) (p * 5 + 1))).toNatClampNeg) (((dSw (mD M)) (t)) + ((dG (mD M)) (p * 5 + 4)))), cI 618 (svF (svDs (mN M) (mDs M) (mD M))), cI 103 (zD (mSp M)), cI 60 (mBf M), cI 10 (oF (mOd M)), cI 39 (mPa M)]) (P := vp_in (43 + ((dG (mD M)) (p * 5 + 1))) 103 ∧ True) rfl ⟨(gvin (gadd (gk 43) hT) (by omega) (by omega)), trivial⟩ ?_
  rw [show (43 + ((dG (mD M)) (p * 5 + 1))).toNatClampNeg = (43 + t) from gclp (gadd (gk 43) hT) (by omega)]
  rw [show upd (zD (dTr (mD M), dG (mD M), dSz (mD M), dC (mD M), dSt (mD M), dSh (mD M), dCu (mD M), upd (dLa (mD M)) t (((dLa (mD M)) (t)) - ((dG (mD M)) (p * 5 + 4))), dSw (mD M), dDy (mD M), dDn (mD M), dLt (mD M), dLd (mD M), dSo (mD M))) (43 + t) (((dSw (mD M)) (t)) + ((dG (mD M)) (p * 5 + 4))) = zD (dTr (mD M), dG (mD M), dSz (mD M), dC (mD M), dSt (mD M), dSh (mD M), dCu (mD M), upd (dLa (mD M)) t (((dLa (mD M)) (t)) - ((dG (mD M)) (p * 5 + 4))), upd (dSw (mD M)) t (((dSw (mD M)) (t)) + ((dG (mD M)) (p * 5 + 4))), dDy (mD M), dDn (mD M), dLt (mD M), dLd (mD M), dSo (mD M)) from zu_sw (dTr (mD M), dG (mD M), dSz (mD M), dC (mD M), dSt (mD M), dSh (mD M), dCu (mD M), upd (dLa (mD M)) t (((dLa (mD M)) (t)) - ((dG (mD M)) (p * 5 + 4))), dSw (mD M), dDy (mD M), dDn (mD M), dLt (mD M), dLd (mD M), dSo (mD M)) t (by omega) (((dSw (mD M)) (t)) + ((dG (mD M)) (p * 5 + 4)))]
  refine gW_b D_Mo_drop 50 2 (pc' := 78) (l' := [(0, .ref 0), (1, .int x), (2, .int (nI p)), (3, .int ((dG (mD M)) (p * 5 + 4)))]) (st' := [.int (nI p), .ref 0]) (h' := cMo (wN (wDs (wD (wTh M 0) (dTr (mD M), dG (mD M), dSz (mD M), dC (mD M), dSt (mD M), dSh (mD M), dCu (mD M), upd (dLa (mD M)) t (((dLa (mD M)) (t)) - ((dG (mD M)) (p * 5 + 4))), upd (dSw (mD M)) t (((dSw (mD M)) (t)) + ((dG (mD M)) (p * 5 + 4))), dDy (mD M), dDn (mD M), dLt (mD M), dLd (mD M), dSo (mD M))) (svDs (mN M) (mDs M) (mD M))) (svN (mN M)))) (P := True) rfl trivial ?_
  refine gW_callV (n_takeOut2 (wN (wDs (wD (wTh M 0) (dTr (mD M), dG (mD M), dSz (mD M), dC (mD M), dSt (mD M), dSh (mD M), dCu (mD M), upd (dLa (mD M)) t (((dLa (mD M)) (t)) - ((dG (mD M)) (p * 5 + 4))), upd (dSw (mD M)) t (((dSw (mD M)) (t)) + ((dG (mD M)) (p * 5 + 4))), dDy (mD M), dDn (mD M), dLt (mD M), dLd (mD M), dSo (mD M))) (svDs (mN M) (mDs M) (mD M))) (svN (mN M))) p hp hs) lk_Mo_81 [0, 1, 2, 3, 4, 5, 6] (gdec_at D_Mo_drop 52 rfl) (st := []) rfl rfl ⟨rfl, rfl⟩ (Nat.le_of_ble_eq_true rfl) rfl (by decide) rfl (Nat.le_of_ble_eq_true rfl) ⟨Nat.le_of_ble_eq_true rfl, Nat.le_of_ble_eq_true rfl⟩ ⟨Nat.le_of_ble_eq_true rfl, Nat.le_of_ble_eq_true rfl⟩ (gAft_r rfl rfl (h' := cMo (wN (wDs (wD (wTh M 0) (toD (dTr (mD M), dG (mD M), dSz (mD M), dC (mD M), dSt (mD M), dSh (mD M), dCu (mD M), upd (dLa (mD M)) t (((dLa (mD M)) (t)) - ((dG (mD M)) (p * 5 + 4))), upd (dSw (mD M)) t (((dSw (mD M)) (t)) + ((dG (mD M)) (p * 5 + 4))), dDy (mD M), dDn (mD M), dLt (mD M), dLd (mD M), dSo (mD M)) p (dSz (mD M) - 1))) (svDs (mN M) (mDs M) (mD M))) (svN (mN M)))) (st' := []) (pc' := 81) (cs' := 0) (ss' := 0) rfl rfl rfl rfl rfl ?_)
  refine gW_b D_Mo_drop 53 1 (pc' := 82) (l' := [(0, .ref 0), (1, .int x), (2, .int (nI p)), (3, .int ((dG (mD M)) (p * 5 + 4)))]) (st' := [.int ((dG (mD M)) (p * 5 + 4))]) (h' := cMo (wN (wDs (wD (wTh M 0) (toD (dTr (mD M), dG (mD M), dSz (mD M), dC (mD M), dSt (mD M), dSh (mD M), dCu (mD M), upd (dLa (mD M)) t (((dLa (mD M)) (t)) - ((dG (mD M)) (p * 5 + 4))), upd (dSw (mD M)) t (((dSw (mD M)) (t)) + ((dG (mD M)) (p * 5 + 4))), dDy (mD M), dDn (mD M), dLt (mD M), dLd (mD M), dSo (mD M)) p (dSz (mD M) - 1))) (svDs (mN M) (mDs M) (mD M))) (svN (mN M)))) (P := True) rfl trivial ?_
  exact gW_iret (gdec_at D_Mo_drop 54 rfl) rfl rfl (Nat.le_of_ble_eq_true rfl) ⟨rfl, rfl⟩ (Nat.le_of_ble_eq_true rfl) (Nat.le_of_ble_eq_true rfl)
theorem n_drop_x (M : gMo) (x : Int32) (hs : dSz (mD M) ≤ 10) (h : plL (dG (mD M)) x (dSz (mD M)) = -1) : gM K_Mo_drop { frames := 2, locals := 45, cells := 0, slots := 0 } [.ref 0, .int x] (cMo M) (gD (.inl (some (.int 0))) (cMo (wTh M 1))) := by
  refine gM_of rfl rfl (Nat.le_of_ble_eq_true rfl) (fun sc => ?_)
  refine gW_b D_Mo_drop 0 2 (pc' := 2) (l' := [(0, .ref 0), (1, .int x)]) (st' := [.int x, .ref 0]) (h' := cMo M) (P := True) rfl trivial ?_
  refine gW_callV (n_placeOf M x (by assumption)) lk_Mo_78 [0, 1, 2, 3, 4, 5, 6] (gdec_at D_Mo_drop 2 rfl) (st := []) rfl rfl ⟨rfl, rfl⟩ (Nat.le_of_ble_eq_true rfl) rfl (by decide) rfl (Nat.le_of_ble_eq_true rfl) ⟨Nat.le_of_ble_eq_true rfl, Nat.le_of_ble_eq_true rfl⟩ ⟨Nat.le_of_ble_eq_true rfl, Nat.le_of_ble_eq_true rfl⟩ (gAft_r rfl rfl (h' := cMo M) (st' := [.int (plL (dG (mD M)) x (dSz (mD M)))]) (pc' := 5) (cs' := 0) (ss' := 0) rfl rfl rfl rfl rfl ?_)
  rw [h]
  refine gW_b D_Mo_drop 3 4 (pc' := 9) (l' := [(0, .ref 0), (1, .int x), (2, .int (-1))]) (st' := [.int (-1), .int (-1), .ref 0]) (h' := cMo M) (P := True) rfl trivial ?_
  refine gW_ic_ne (gdec_at D_Mo_drop 7 rfl) (tgt := 16) rfl (fun cq => absurd (by decide) cq) (fun _ => ?_)
  refine gW_b D_Mo_drop 8 2 (pc' := 17) (l' := [(0, .ref 0), (1, .int x), (2, .int (-1))]) (st' := [.int 1, .ref 0]) (h' := cMo M) (P := True) rfl trivial ?_
  refine gW_b D_Mo_drop 11 3 (pc' := 24) (l' := [(0, .ref 0), (1, .int x), (2, .int (-1))]) (st' := [.int 1]) (h' := cMo (wTh M 1)) (P := True) rfl trivial ?_
  refine gW_if_le (gdec_at D_Mo_drop 14 rfl) (tgt := 29) rfl (fun cq => absurd cq (by decide)) (fun _ => ?_)
  refine gW_b D_Mo_drop 15 1 (pc' := 28) (l' := [(0, .ref 0), (1, .int x), (2, .int (-1))]) (st' := [.int 0]) (h' := cMo (wTh M 1)) (P := True) rfl trivial ?_
  exact gW_iret (gdec_at D_Mo_drop 16 rfl) rfl rfl (Nat.le_of_ble_eq_true rfl) ⟨rfl, rfl⟩ (Nat.le_of_ble_eq_true rfl) (Nat.le_of_ble_eq_true rfl)
theorem i0_2 {x : Int32} (h : ¬ x < 0) (h0 : ¬ x = 0) (h1 : ¬ x = 1) : ¬ x < 2 := by
  intro h2
  have a0 : ¬ x.toInt < (0 : Int32).toInt := fun q => h (Int32.lt_iff_toInt_lt.mpr q)
  have a2 : x.toInt < (2 : Int32).toInt := Int32.lt_iff_toInt_lt.mp h2
  have b0 : x.toInt ≠ (0 : Int32).toInt := fun q => h0 (Int32.toInt_inj.mp q)
  have b1 : x.toInt ≠ (1 : Int32).toInt := fun q => h1 (Int32.toInt_inj.mp q)
  rw [show (0 : Int32).toInt = 0 from rfl] at a0 b0
  rw [show (2 : Int32).toInt = 2 from rfl] at a2
  rw [show (1 : Int32).toInt = 1 from rfl] at b1
  omega
theorem n_isV_t0 (v : Int32) (h1 : ¬ v < 1) (h2 : ¬ 200 < v) : gM K_Mo_isValue { frames := 1, locals := 22, cells := 0, slots := 0 } [.int 0, .int v] ([]) (gD (.inl (some (.int 1))) ([])) := by
  refine gM_of rfl rfl (Nat.le_of_ble_eq_true rfl) (fun sc => ?_)
  refine gW_b D_Mo_isValue 0 1 (pc' := 1) (l' := [(0, .int 0), (1, .int v)]) (st' := [.int 0]) (h' := []) (P := True) rfl trivial ?_
  refine gW_tin S_Mo_isValue_1 (tgt := 36) (by decide) (by decide) (off := 35) (by decide) rfl ?_
  refine gW_b D_Mo_isValue 1 3 (pc' := 41) (l' := [(0, .int 0), (1, .int v)]) (st' := [.int 200, .int 1, .int v]) (h' := []) (P := True) rfl trivial ?_
  refine gW_callS (n_in_t v 1 200 h1 h2) lk_Mo_32 [] (gdec_at D_Mo_isValue 4 rfl) (st := []) rfl rfl ⟨rfl, rfl⟩ (Nat.le_of_ble_eq_true rfl) (Nat.le_of_ble_eq_true rfl) ⟨Nat.le_of_ble_eq_true rfl, Nat.le_of_ble_eq_true rfl⟩ ⟨Nat.le_of_ble_eq_true rfl, Nat.le_of_ble_eq_true rfl⟩ (gAft_r rfl rfl (h' := []) (st' := [.int 1]) (pc' := 44) (cs' := 0) (ss' := 0) rfl rfl rfl rfl rfl ?_)
  exact gW_iret (gdec_at D_Mo_isValue 5 rfl) rfl rfl (Nat.le_of_ble_eq_true rfl) ⟨rfl, rfl⟩ (Nat.le_of_ble_eq_true rfl) (Nat.le_of_ble_eq_true rfl)
theorem n_isV_f0 (v : Int32) (h : v < 1 ∨ 200 < v) : gM K_Mo_isValue { frames := 1, locals := 22, cells := 0, slots := 0 } [.int 0, .int v] ([]) (gD (.inl (some (.int 0))) ([])) := by
  refine gM_of rfl rfl (Nat.le_of_ble_eq_true rfl) (fun sc => ?_)
  refine gW_b D_Mo_isValue 0 1 (pc' := 1) (l' := [(0, .int 0), (1, .int v)]) (st' := [.int 0]) (h' := []) (P := True) rfl trivial ?_
  refine gW_tin S_Mo_isValue_1 (tgt := 36) (by decide) (by decide) (off := 35) (by decide) rfl ?_
  refine gW_b D_Mo_isValue 1 3 (pc' := 41) (l' := [(0, .int 0), (1, .int v)]) (st' := [.int 200, .int 1, .int v]) (h' := []) (P := True) rfl trivial ?_
  refine gW_callS (n_in_f v 1 200 h) lk_Mo_32 [] (gdec_at D_Mo_isValue 4 rfl) (st := []) rfl rfl ⟨rfl, rfl⟩ (Nat.le_of_ble_eq_true rfl) (Nat.le_of_ble_eq_true rfl) ⟨Nat.le_of_ble_eq_true rfl, Nat.le_of_ble_eq_true rfl⟩ ⟨Nat.le_of_ble_eq_true rfl, Nat.le_of_ble_eq_true rfl⟩ (gAft_r rfl rfl (h' := []) (st' := [.int 0]) (pc' := 44) (cs' := 0) (ss' := 0) rfl rfl rfl rfl rfl ?_)
  exact gW_iret (gdec_at D_Mo_isValue 5 rfl) rfl rfl (Nat.le_of_ble_eq_true rfl) ⟨rfl, rfl⟩ (Nat.le_of_ble_eq_true rfl) (Nat.le_of_ble_eq_true rfl)
theorem n_isV_t1 (v : Int32) (h1 : ¬ v < 10) (h2 : ¬ 500 < v) : gM K_Mo_isValue { frames := 1, locals := 22, cells := 0, slots := 0 } [.int 1, .int v] ([]) (gD (.inl (some (.int 1))) ([])) := by
  refine gM_of rfl rfl (Nat.le_of_ble_eq_true rfl) (fun sc => ?_)
  refine gW_b D_Mo_isValue 0 1 (pc' := 1) (l' := [(0, .int 1), (1, .int v)]) (st' := [.int 1]) (h' := []) (P := True) rfl trivial ?_
  refine gW_tin S_Mo_isValue_1 (tgt := 45) (by decide) (by decide) (off := 44) (by decide) rfl ?_
  refine gW_b D_Mo_isValue 6 3 (pc' := 51) (l' := [(0, .int 1), (1, .int v)]) (st' := [.int 500, .int 10, .int v]) (h' := []) (P := True) rfl trivial ?_
  refine gW_callS (n_in_t v 10 500 h1 h2) lk_Mo_32 [] (gdec_at D_Mo_isValue 9 rfl) (st := []) rfl rfl ⟨rfl, rfl⟩ (Nat.le_of_ble_eq_true rfl) (Nat.le_of_ble_eq_true rfl) ⟨Nat.le_of_ble_eq_true rfl, Nat.le_of_ble_eq_true rfl⟩ ⟨Nat.le_of_ble_eq_true rfl, Nat.le_of_ble_eq_true rfl⟩ (gAft_r rfl rfl (h' := []) (st' := [.int 1]) (pc' := 54) (cs' := 0) (ss' := 0) rfl rfl rfl rfl rfl ?_)
  exact gW_iret (gdec_at D_Mo_isValue 10 rfl) rfl rfl (Nat.le_of_ble_eq_true rfl) ⟨rfl, rfl⟩ (Nat.le_of_ble_eq_true rfl) (Nat.le_of_ble_eq_true rfl)
theorem n_isV_f1 (v : Int32) (h : v < 10 ∨ 500 < v) : gM K_Mo_isValue { frames := 1, locals := 22, cells := 0, slots := 0 } [.int 1, .int v] ([]) (gD (.inl (some (.int 0))) ([])) := by
  refine gM_of rfl rfl (Nat.le_of_ble_eq_true rfl) (fun sc => ?_)
  refine gW_b D_Mo_isValue 0 1 (pc' := 1) (l' := [(0, .int 1), (1, .int v)]) (st' := [.int 1]) (h' := []) (P := True) rfl trivial ?_
  refine gW_tin S_Mo_isValue_1 (tgt := 45) (by decide) (by decide) (off := 44) (by decide) rfl ?_
  refine gW_b D_Mo_isValue 6 3 (pc' := 51) (l' := [(0, .int 1), (1, .int v)]) (st' := [.int 500, .int 10, .int v]) (h' := []) (P := True) rfl trivial ?_
  refine gW_callS (n_in_f v 10 500 h) lk_Mo_32 [] (gdec_at D_Mo_isValue 9 rfl) (st := []) rfl rfl ⟨rfl, rfl⟩ (Nat.le_of_ble_eq_true rfl) (Nat.le_of_ble_eq_true rfl) ⟨Nat.le_of_ble_eq_true rfl, Nat.le_of_ble_eq_true rfl⟩ ⟨Nat.le_of_ble_eq_true rfl, Nat.le_of_ble_eq_true rfl⟩ (gAft_r rfl rfl (h' := []) (st' := [.int 0]) (pc' := 54) (cs' := 0) (ss' := 0) rfl rfl rfl rfl rfl ?_)
  exact gW_iret (gdec_at D_Mo_isValue 10 rfl) rfl rfl (Nat.le_of_ble_eq_true rfl) ⟨rfl, rfl⟩ (Nat.le_of_ble_eq_true rfl) (Nat.le_of_ble_eq_true rfl)
theorem n_isV_t2 (v : Int32) (h1 : ¬ v < 0) (h2 : ¬ 1 < v) : gM K_Mo_isValue { frames := 1, locals := 22, cells := 0, slots := 0 } [.int 2, .int v] ([]) (gD (.inl (some (.int 1))) ([])) := by
  refine gM_of rfl rfl (Nat.le_of_ble_eq_true rfl) (fun sc => ?_)
  refine gW_b D_Mo_isValue 0 1 (pc' := 1) (l' := [(0, .int 2), (1, .int v)]) (st' := [.int 2]) (h' := []) (P := True) rfl trivial ?_
  refine gW_tin S_Mo_isValue_1 (tgt := 55) (by decide) (by decide) (off := 54) (by decide) rfl ?_
  refine gW_b D_Mo_isValue 11 3 (pc' := 58) (l' := [(0, .int 2), (1, .int v)]) (st' := [.int 1, .int 0, .int v]) (h' := []) (P := True) rfl trivial ?_
  refine gW_callS (n_in_t v 0 1 h1 h2) lk_Mo_32 [] (gdec_at D_Mo_isValue 14 rfl) (st := []) rfl rfl ⟨rfl, rfl⟩ (Nat.le_of_ble_eq_true rfl) (Nat.le_of_ble_eq_true rfl) ⟨Nat.le_of_ble_eq_true rfl, Nat.le_of_ble_eq_true rfl⟩ ⟨Nat.le_of_ble_eq_true rfl, Nat.le_of_ble_eq_true rfl⟩ (gAft_r rfl rfl (h' := []) (st' := [.int 1]) (pc' := 61) (cs' := 0) (ss' := 0) rfl rfl rfl rfl rfl ?_)
  exact gW_iret (gdec_at D_Mo_isValue 15 rfl) rfl rfl (Nat.le_of_ble_eq_true rfl) ⟨rfl, rfl⟩ (Nat.le_of_ble_eq_true rfl) (Nat.le_of_ble_eq_true rfl)
theorem n_isV_f2 (v : Int32) (h : v < 0 ∨ 1 < v) : gM K_Mo_isValue { frames := 1, locals := 22, cells := 0, slots := 0 } [.int 2, .int v] ([]) (gD (.inl (some (.int 0))) ([])) := by
  refine gM_of rfl rfl (Nat.le_of_ble_eq_true rfl) (fun sc => ?_)
  refine gW_b D_Mo_isValue 0 1 (pc' := 1) (l' := [(0, .int 2), (1, .int v)]) (st' := [.int 2]) (h' := []) (P := True) rfl trivial ?_
  refine gW_tin S_Mo_isValue_1 (tgt := 55) (by decide) (by decide) (off := 54) (by decide) rfl ?_
  refine gW_b D_Mo_isValue 11 3 (pc' := 58) (l' := [(0, .int 2), (1, .int v)]) (st' := [.int 1, .int 0, .int v]) (h' := []) (P := True) rfl trivial ?_
  refine gW_callS (n_in_f v 0 1 h) lk_Mo_32 [] (gdec_at D_Mo_isValue 14 rfl) (st := []) rfl rfl ⟨rfl, rfl⟩ (Nat.le_of_ble_eq_true rfl) (Nat.le_of_ble_eq_true rfl) ⟨Nat.le_of_ble_eq_true rfl, Nat.le_of_ble_eq_true rfl⟩ ⟨Nat.le_of_ble_eq_true rfl, Nat.le_of_ble_eq_true rfl⟩ (gAft_r rfl rfl (h' := []) (st' := [.int 0]) (pc' := 61) (cs' := 0) (ss' := 0) rfl rfl rfl rfl rfl ?_)
  exact gW_iret (gdec_at D_Mo_isValue 15 rfl) rfl rfl (Nat.le_of_ble_eq_true rfl) ⟨rfl, rfl⟩ (Nat.le_of_ble_eq_true rfl) (Nat.le_of_ble_eq_true rfl)
theorem n_isV_t3 (v : Int32) (h1 : ¬ v < 0) (h2 : ¬ 9 < v) : gM K_Mo_isValue { frames := 1, locals := 22, cells := 0, slots := 0 } [.int 3, .int v] ([]) (gD (.inl (some (.int 1))) ([])) := by
  refine gM_of rfl rfl (Nat.le_of_ble_eq_true rfl) (fun sc => ?_)
  refine gW_b D_Mo_isValue 0 1 (pc' := 1) (l' := [(0, .int 3), (1, .int v)]) (st' := [.int 3]) (h' := []) (P := True) rfl trivial ?_
  refine gW_tin S_Mo_isValue_1 (tgt := 62) (by decide) (by decide) (off := 61) (by decide) rfl ?_
  refine gW_b D_Mo_isValue 16 3 (pc' := 66) (l' := [(0, .int 3), (1, .int v)]) (st' := [.int 9, .int 0, .int v]) (h' := []) (P := True) rfl trivial ?_
  refine gW_callS (n_in_t v 0 9 h1 h2) lk_Mo_32 [] (gdec_at D_Mo_isValue 19 rfl) (st := []) rfl rfl ⟨rfl, rfl⟩ (Nat.le_of_ble_eq_true rfl) (Nat.le_of_ble_eq_true rfl) ⟨Nat.le_of_ble_eq_true rfl, Nat.le_of_ble_eq_true rfl⟩ ⟨Nat.le_of_ble_eq_true rfl, Nat.le_of_ble_eq_true rfl⟩ (gAft_r rfl rfl (h' := []) (st' := [.int 1]) (pc' := 69) (cs' := 0) (ss' := 0) rfl rfl rfl rfl rfl ?_)
  exact gW_iret (gdec_at D_Mo_isValue 20 rfl) rfl rfl (Nat.le_of_ble_eq_true rfl) ⟨rfl, rfl⟩ (Nat.le_of_ble_eq_true rfl) (Nat.le_of_ble_eq_true rfl)
theorem n_isV_f3 (v : Int32) (h : v < 0 ∨ 9 < v) : gM K_Mo_isValue { frames := 1, locals := 22, cells := 0, slots := 0 } [.int 3, .int v] ([]) (gD (.inl (some (.int 0))) ([])) := by
  refine gM_of rfl rfl (Nat.le_of_ble_eq_true rfl) (fun sc => ?_)
  refine gW_b D_Mo_isValue 0 1 (pc' := 1) (l' := [(0, .int 3), (1, .int v)]) (st' := [.int 3]) (h' := []) (P := True) rfl trivial ?_
  refine gW_tin S_Mo_isValue_1 (tgt := 62) (by decide) (by decide) (off := 61) (by decide) rfl ?_
  refine gW_b D_Mo_isValue 16 3 (pc' := 66) (l' := [(0, .int 3), (1, .int v)]) (st' := [.int 9, .int 0, .int v]) (h' := []) (P := True) rfl trivial ?_
  refine gW_callS (n_in_f v 0 9 h) lk_Mo_32 [] (gdec_at D_Mo_isValue 19 rfl) (st := []) rfl rfl ⟨rfl, rfl⟩ (Nat.le_of_ble_eq_true rfl) (Nat.le_of_ble_eq_true rfl) ⟨Nat.le_of_ble_eq_true rfl, Nat.le_of_ble_eq_true rfl⟩ ⟨Nat.le_of_ble_eq_true rfl, Nat.le_of_ble_eq_true rfl⟩ (gAft_r rfl rfl (h' := []) (st' := [.int 0]) (pc' := 69) (cs' := 0) (ss' := 0) rfl rfl rfl rfl rfl ?_)
  exact gW_iret (gdec_at D_Mo_isValue 20 rfl) rfl rfl (Nat.le_of_ble_eq_true rfl) ⟨rfl, rfl⟩ (Nat.le_of_ble_eq_true rfl) (Nat.le_of_ble_eq_true rfl)
theorem n_isV_t4 (v : Int32) (h1 : ¬ v < 1) (h2 : ¬ 99 < v) : gM K_Mo_isValue { frames := 1, locals := 22, cells := 0, slots := 0 } [.int 4, .int v] ([]) (gD (.inl (some (.int 1))) ([])) := by
  refine gM_of rfl rfl (Nat.le_of_ble_eq_true rfl) (fun sc => ?_)
  refine gW_b D_Mo_isValue 0 1 (pc' := 1) (l' := [(0, .int 4), (1, .int v)]) (st' := [.int 4]) (h' := []) (P := True) rfl trivial ?_
  refine gW_tin S_Mo_isValue_1 (tgt := 70) (by decide) (by decide) (off := 69) (by decide) rfl ?_
  refine gW_b D_Mo_isValue 21 3 (pc' := 74) (l' := [(0, .int 4), (1, .int v)]) (st' := [.int 99, .int 1, .int v]) (h' := []) (P := True) rfl trivial ?_
  refine gW_callS (n_in_t v 1 99 h1 h2) lk_Mo_32 [] (gdec_at D_Mo_isValue 24 rfl) (st := []) rfl rfl ⟨rfl, rfl⟩ (Nat.le_of_ble_eq_true rfl) (Nat.le_of_ble_eq_true rfl) ⟨Nat.le_of_ble_eq_true rfl, Nat.le_of_ble_eq_true rfl⟩ ⟨Nat.le_of_ble_eq_true rfl, Nat.le_of_ble_eq_true rfl⟩ (gAft_r rfl rfl (h' := []) (st' := [.int 1]) (pc' := 77) (cs' := 0) (ss' := 0) rfl rfl rfl rfl rfl ?_)
  exact gW_iret (gdec_at D_Mo_isValue 25 rfl) rfl rfl (Nat.le_of_ble_eq_true rfl) ⟨rfl, rfl⟩ (Nat.le_of_ble_eq_true rfl) (Nat.le_of_ble_eq_true rfl)
theorem n_isV_f4 (v : Int32) (h : v < 1 ∨ 99 < v) : gM K_Mo_isValue { frames := 1, locals := 22, cells := 0, slots := 0 } [.int 4, .int v] ([]) (gD (.inl (some (.int 0))) ([])) := by
  refine gM_of rfl rfl (Nat.le_of_ble_eq_true rfl) (fun sc => ?_)
  refine gW_b D_Mo_isValue 0 1 (pc' := 1) (l' := [(0, .int 4), (1, .int v)]) (st' := [.int 4]) (h' := []) (P := True) rfl trivial ?_
  refine gW_tin S_Mo_isValue_1 (tgt := 70) (by decide) (by decide) (off := 69) (by decide) rfl ?_
  refine gW_b D_Mo_isValue 21 3 (pc' := 74) (l' := [(0, .int 4), (1, .int v)]) (st' := [.int 99, .int 1, .int v]) (h' := []) (P := True) rfl trivial ?_
  refine gW_callS (n_in_f v 1 99 h) lk_Mo_32 [] (gdec_at D_Mo_isValue 24 rfl) (st := []) rfl rfl ⟨rfl, rfl⟩ (Nat.le_of_ble_eq_true rfl) (Nat.le_of_ble_eq_true rfl) ⟨Nat.le_of_ble_eq_true rfl, Nat.le_of_ble_eq_true rfl⟩ ⟨Nat.le_of_ble_eq_true rfl, Nat.le_of_ble_eq_true rfl⟩ (gAft_r rfl rfl (h' := []) (st' := [.int 0]) (pc' := 77) (cs' := 0) (ss' := 0) rfl rfl rfl rfl rfl ?_)
  exact gW_iret (gdec_at D_Mo_isValue 25 rfl) rfl rfl (Nat.le_of_ble_eq_true rfl) ⟨rfl, rfl⟩ (Nat.le_of_ble_eq_true rfl) (Nat.le_of_ble_eq_true rfl)
theorem n_isV_t5 (v : Int32) (h1 : ¬ v < 0) (h2 : ¬ 99 < v) (h3 : ¬ v = 1) : gM K_Mo_isValue { frames := 1, locals := 22, cells := 0, slots := 0 } [.int 5, .int v] ([]) (gD (.inl (some (.int 1))) ([])) := by
  refine gM_of rfl rfl (Nat.le_of_ble_eq_true rfl) (fun sc => ?_)
  refine gW_b D_Mo_isValue 0 1 (pc' := 1) (l' := [(0, .int 5), (1, .int v)]) (st' := [.int 5]) (h' := []) (P := True) rfl trivial ?_
  refine gW_tout S_Mo_isValue_1 (tgt := 78) (by decide) rfl ?_
  refine gW_b D_Mo_isValue 26 1 (pc' := 79) (l' := [(0, .int 5), (1, .int v)]) (st' := [.int v]) (h' := []) (P := True) rfl trivial ?_
  refine gW_if_eq (gdec_at D_Mo_isValue 27 rfl) (tgt := 92) rfl (fun c => ?_) (fun c => ?_)
  · skip
    refine gW_b D_Mo_isValue 33 2 (pc' := 97) (l' := [(0, .int 5), (1, .int v)]) (st' := [.int 1]) (h' := []) (P := True) rfl trivial ?_
    exact gW_iret (gdec_at D_Mo_isValue 36 rfl) rfl rfl (Nat.le_of_ble_eq_true rfl) ⟨rfl, rfl⟩ (Nat.le_of_ble_eq_true rfl) (Nat.le_of_ble_eq_true rfl)
  · skip
    refine gW_b D_Mo_isValue 28 3 (pc' := 86) (l' := [(0, .int 5), (1, .int v)]) (st' := [.int 99, .int 2, .int v]) (h' := []) (P := True) rfl trivial ?_
    refine gW_callS (n_in_t v 2 99 (i0_2 h1 c h3) h2) lk_Mo_32 [] (gdec_at D_Mo_isValue 31 rfl) (st := []) rfl rfl ⟨rfl, rfl⟩ (Nat.le_of_ble_eq_true rfl) (Nat.le_of_ble_eq_true rfl) ⟨Nat.le_of_ble_eq_true rfl, Nat.le_of_ble_eq_true rfl⟩ ⟨Nat.le_of_ble_eq_true rfl, Nat.le_of_ble_eq_true rfl⟩ (gAft_r rfl rfl (h' := []) (st' := [.int 1]) (pc' := 89) (cs' := 0) (ss' := 0) rfl rfl rfl rfl rfl ?_)
    refine gW_if_eq (gdec_at D_Mo_isValue 32 rfl) (tgt := 96) rfl (fun cq => absurd cq (by decide)) (fun _ => ?_)
    refine gW_b D_Mo_isValue 33 2 (pc' := 97) (l' := [(0, .int 5), (1, .int v)]) (st' := [.int 1]) (h' := []) (P := True) rfl trivial ?_
    exact gW_iret (gdec_at D_Mo_isValue 36 rfl) rfl rfl (Nat.le_of_ble_eq_true rfl) ⟨rfl, rfl⟩ (Nat.le_of_ble_eq_true rfl) (Nat.le_of_ble_eq_true rfl)
theorem n_isV_f5 (v : Int32) (h : v < 0 ∨ 99 < v ∨ v = 1) : gM K_Mo_isValue { frames := 1, locals := 22, cells := 0, slots := 0 } [.int 5, .int v] ([]) (gD (.inl (some (.int 0))) ([])) := by
  refine gM_of rfl rfl (Nat.le_of_ble_eq_true rfl) (fun sc => ?_)
  have c : ¬ v = 0 := by
    intro c
    subst c
    revert h
    decide
  have h2 : v < 2 ∨ 99 < v := by
    rcases h with h | h | h
    · exact Or.inl (Int32.lt_trans h (by decide))
    · exact Or.inr h
    · subst h
      exact Or.inl (by decide)
  refine gW_b D_Mo_isValue 0 1 (pc' := 1) (l' := [(0, .int 5), (1, .int v)]) (st' := [.int 5]) (h' := []) (P := True) rfl trivial ?_
  refine gW_tout S_Mo_isValue_1 (tgt := 78) (by decide) rfl ?_
  refine gW_b D_Mo_isValue 26 1 (pc' := 79) (l' := [(0, .int 5), (1, .int v)]) (st' := [.int v]) (h' := []) (P := True) rfl trivial ?_
  refine gW_if_eq (gdec_at D_Mo_isValue 27 rfl) (tgt := 92) rfl (fun cq => absurd cq c) (fun _ => ?_)
  refine gW_b D_Mo_isValue 28 3 (pc' := 86) (l' := [(0, .int 5), (1, .int v)]) (st' := [.int 99, .int 2, .int v]) (h' := []) (P := True) rfl trivial ?_
  refine gW_callS (n_in_f v 2 99 h2) lk_Mo_32 [] (gdec_at D_Mo_isValue 31 rfl) (st := []) rfl rfl ⟨rfl, rfl⟩ (Nat.le_of_ble_eq_true rfl) (Nat.le_of_ble_eq_true rfl) ⟨Nat.le_of_ble_eq_true rfl, Nat.le_of_ble_eq_true rfl⟩ ⟨Nat.le_of_ble_eq_true rfl, Nat.le_of_ble_eq_true rfl⟩ (gAft_r rfl rfl (h' := []) (st' := [.int 0]) (pc' := 89) (cs' := 0) (ss' := 0) rfl rfl rfl rfl rfl ?_)
  refine gW_if_eq (gdec_at D_Mo_isValue 32 rfl) (tgt := 96) rfl (fun _ => ?_) (fun cq => absurd (by decide) cq)
  refine gW_b D_Mo_isValue 35 1 (pc' := 97) (l' := [(0, .int 5), (1, .int v)]) (st' := [.int 0]) (h' := []) (P := True) rfl trivial ?_
  exact gW_iret (gdec_at D_Mo_isValue 36 rfl) rfl rfl (Nat.le_of_ble_eq_true rfl) ⟨rfl, rfl⟩ (Nat.le_of_ble_eq_true rfl) (Nat.le_of_ble_eq_true rfl)
theorem n_isValue_t (k : Nat) (v : Int32) (hk : k < 6) (h1 : ¬ v < gLo k) (h2 : ¬ gHi k < v) (h : ¬ (k = 5 ∧ v = 1)) : gM K_Mo_isValue { frames := 1, locals := 22, cells := 0, slots := 0 } [.int (nI k), .int v] ([]) (gD (.inl (some (.int 1))) ([])) := by
  match k, hk with
  | 0, _ => exact n_isV_t0 v h1 h2
  | 1, _ => exact n_isV_t1 v h1 h2
  | 2, _ => exact n_isV_t2 v h1 h2
  | 3, _ => exact n_isV_t3 v h1 h2
  | 4, _ => exact n_isV_t4 v h1 h2
  | 5, _ => exact n_isV_t5 v h1 h2 (fun q => h ⟨rfl, q⟩)
theorem n_isValue_f (k : Nat) (v : Int32) (hk : k < 6) (h : (v < gLo k ∨ gHi k < v) ∨ (k = 5 ∧ v = 1)) : gM K_Mo_isValue { frames := 1, locals := 22, cells := 0, slots := 0 } [.int (nI k), .int v] ([]) (gD (.inl (some (.int 0))) ([])) := by
  match k, hk with
  | 0, _ => exact n_isV_f0 v (h.resolve_right (fun q => absurd q.1 (by decide)))
  | 1, _ => exact n_isV_f1 v (h.resolve_right (fun q => absurd q.1 (by decide)))
  | 2, _ => exact n_isV_f2 v (h.resolve_right (fun q => absurd q.1 (by decide)))
  | 3, _ => exact n_isV_f3 v (h.resolve_right (fun q => absurd q.1 (by decide)))
  | 4, _ => exact n_isV_f4 v (h.resolve_right (fun q => absurd q.1 (by decide)))
  | 5, _ => exact n_isV_f5 v (h.elim (fun q => q.elim Or.inl (fun z => Or.inr (Or.inl z))) (fun q => Or.inr (Or.inr q.2)))
theorem n_set (M : gMo) (hn : mN M ≤ 6) (k : Nat) (v : Int32) (hk : k < 6) (h1 : ¬ v < gLo k) (h2 : ¬ gHi k < v) (h : ¬ (k = 5 ∧ v = 1)) : gM K_Mo_set { frames := 2, locals := 43, cells := 0, slots := 0 } [.ref 0, .int (nI k), .int v] (cMo M) (gD (.inl (some (.int (dSt (mD M) k)))) (cMo (wN (wDs (wD (wTh M 0) (dTr (mD M), dG (mD M), dSz (mD M), dC (mD M), upd (dSt (mD M)) k v, dSh (mD M), dCu (mD M), dLa (mD M), dSw (mD M), dDy (mD M), dDn (mD M), dLt (mD M), dLd (mD M), dSo (mD M))) (svDs (mN M) (mDs M) (mD M))) (svN (mN M))))) := by
  refine gM_of rfl rfl (Nat.le_of_ble_eq_true rfl) (fun sc => ?_)
  refine gW_b D_Mo_set 0 4 (pc' := 4) (l' := [(0, .ref 0), (1, .int (nI k)), (2, .int v)]) (st' := [.int 5, .int 0, .int (nI k), .ref 0]) (h' := cMo M) (P := True) rfl trivial ?_
  refine gW_callS (n_in_t (nI k) 0 5 (mt (glt (rfl : nI k = nI k) (gk 0) (by omega) (by omega)).mp (by omega)) (mt (glt (gk 5) (rfl : nI k = nI k) (by omega) (by omega)).mp (by omega))) lk_Mo_32 [] (gdec_at D_Mo_set 4 rfl) (st := [.ref 0]) rfl rfl ⟨rfl, rfl⟩ (Nat.le_of_ble_eq_true rfl) (Nat.le_of_ble_eq_true rfl) ⟨Nat.le_of_ble_eq_true rfl, Nat.le_of_ble_eq_true rfl⟩ ⟨Nat.le_of_ble_eq_true rfl, Nat.le_of_ble_eq_true rfl⟩ (gAft_r rfl rfl (h' := cMo M) (st' := [.int 1, .ref 0]) (pc' := 7) (cs' := 0) (ss' := 0) rfl rfl rfl rfl rfl ?_)
  refine gW_if_ne (gdec_at D_Mo_set 5 rfl) (tgt := 14) rfl (fun _ => ?_) (fun cq => absurd cq (by decide))
  refine gW_b D_Mo_set 8 2 (pc' := 16) (l' := [(0, .ref 0), (1, .int (nI k)), (2, .int v)]) (st' := [.int v, .int (nI k), .ref 0]) (h' := cMo M) (P := True) rfl trivial ?_
  refine gW_callS (n_isValue_t k v hk h1 h2 h) lk_Mo_85 [] (gdec_at D_Mo_set 10 rfl) (st := [.ref 0]) rfl rfl ⟨rfl, rfl⟩ (Nat.le_of_ble_eq_true rfl) (Nat.le_of_ble_eq_true rfl) ⟨Nat.le_of_ble_eq_true rfl, Nat.le_of_ble_eq_true rfl⟩ ⟨Nat.le_of_ble_eq_true rfl, Nat.le_of_ble_eq_true rfl⟩ (gAft_r rfl rfl (h' := cMo M) (st' := [.int 1, .ref 0]) (pc' := 19) (cs' := 0) (ss' := 0) rfl rfl rfl rfl rfl ?_)
  refine gW_if_eq (gdec_at D_Mo_set 11 rfl) (tgt := 26) rfl (fun cq => absurd cq (by decide)) (fun _ => ?_)
  refine gW_b D_Mo_set 12 2 (pc' := 27) (l' := [(0, .ref 0), (1, .int (nI k)), (2, .int v)]) (st' := [.int 0, .ref 0]) (h' := cMo M) (P := True) rfl trivial ?_
  refine gW_b D_Mo_set 15 3 (pc' := 34) (l' := [(0, .ref 0), (1, .int (nI k)), (2, .int v)]) (st' := [.int 0]) (h' := cMo (wTh M 0)) (P := True) rfl trivial ?_
  refine gW_if_le (gdec_at D_Mo_set 18 rfl) (tgt := 39) rfl (fun _ => ?_) (fun cq => absurd (by decide) cq)
  refine gW_b D_Mo_set 21 1 (pc' := 40) (l' := [(0, .ref 0), (1, .int (nI k)), (2, .int v)]) (st' := [.ref 0]) (h' := cMo (wTh M 0)) (P := True) rfl trivial ?_
  refine gW_callV (n_save (wTh M 0) (by first | assumption | omega) ) lk_Mo_62 [0, 1, 2, 3, 4, 5, 6] (gdec_at D_Mo_set 22 rfl) (st := []) rfl rfl ⟨rfl, rfl⟩ (Nat.le_of_ble_eq_true rfl) rfl (by decide) rfl (Nat.le_of_ble_eq_true rfl) ⟨Nat.le_of_ble_eq_true rfl, Nat.le_of_ble_eq_true rfl⟩ ⟨Nat.le_of_ble_eq_true rfl, Nat.le_of_ble_eq_true rfl⟩ (gAft_r rfl rfl (h' := cMo (wN (wDs (wTh M 0) (svDs (mN M) (mDs M) (mD M))) (svN (mN M)))) (st' := []) (pc' := 43) (cs' := 0) (ss' := 0) rfl rfl rfl rfl rfl ?_)
  refine gW_b D_Mo_set 23 6 (pc' := 52) (l' := [(0, .ref 0), (1, .int (nI k)), (2, .int v)]) (st' := [.int (zD (mD M) (28 + (nI k)).toNatClampNeg)]) (h' := cMo (wN (wDs (wTh M 0) (svDs (mN M) (mDs M) (mD M))) (svN (mN M)))) (P := vp_in (28 + (nI k)) 103 ∧ True) rfl ⟨(gvin (gadd (gk 28) (rfl : nI k = nI k)) (by omega) (by omega)), trivial⟩ ?_
  rw [show (28 + (nI k)).toNatClampNeg = (28 + k) from gclp (gadd (gk 28) (rfl : nI k = nI k)) (by omega)]
  rw [show (zD (mD M) (28 + k) : Int32) = (dSt (mD M)) (k) from zr_st (mD M) k (by omega)]
  refine gW_b D_Mo_set 29 8 (pc' := 63) (l' := [(0, .ref 0), (1, .int (nI k)), (2, .int v), (3, .int ((dSt (mD M)) (k)))]) (st' := []) (h' := [cO 6 [.int 0, .ref 1, .ref 2, .int (nI (svN (mN M))), .ref 3, .ref 4, .int (nI (mTy M)), .ref 5, .int (nI (mSt M)), .ref 6, .int (nI (mPm M)), .int (nI (mSpt M)), .int (mWr M), .long (mHs M)], cI 103 (upd (zD (mD M)) ((28 + (nI k)).toNatClampNeg) v), cI 618 (svF (svDs (mN M) (mDs M) (mD M))), cI 103 (zD (mSp M)), cI 60 (mBf M), cI 10 (oF (mOd M)), cI 39 (mPa M)]) (P := vp_in (28 + (nI k)) 103 ∧ True) rfl ⟨(gvin (gadd (gk 28) (rfl : nI k = nI k)) (by omega) (by omega)), trivial⟩ ?_
  rw [show (28 + (nI k)).toNatClampNeg = (28 + k) from gclp (gadd (gk 28) (rfl : nI k = nI k)) (by omega)]
  rw [show upd (zD (mD M)) (28 + k) v = zD (dTr (mD M), dG (mD M), dSz (mD M), dC (mD M), upd (dSt (mD M)) k v, dSh (mD M), dCu (mD M), dLa (mD M), dSw (mD M), dDy (mD M), dDn (mD M), dLt (mD M), dLd (mD M), dSo (mD M)) from zu_st (mD M) k (by omega) v]
  refine gW_b D_Mo_set 37 1 (pc' := 64) (l' := [(0, .ref 0), (1, .int (nI k)), (2, .int v), (3, .int ((dSt (mD M)) (k)))]) (st' := [.int ((dSt (mD M)) (k))]) (h' := cMo (wN (wDs (wD (wTh M 0) (dTr (mD M), dG (mD M), dSz (mD M), dC (mD M), upd (dSt (mD M)) k v, dSh (mD M), dCu (mD M), dLa (mD M), dSw (mD M), dDy (mD M), dDn (mD M), dLt (mD M), dLd (mD M), dSo (mD M))) (svDs (mN M) (mDs M) (mD M))) (svN (mN M)))) (P := True) rfl trivial ?_
  exact gW_iret (gdec_at D_Mo_set 38 rfl) rfl rfl (Nat.le_of_ble_eq_true rfl) ⟨rfl, rfl⟩ (Nat.le_of_ble_eq_true rfl) (Nat.le_of_ble_eq_true rfl)
theorem n_set_x1 (M : gMo) (i v : Int32) (h : i < 0 ∨ 6 ≤ i) : gM K_Mo_set { frames := 2, locals := 43, cells := 0, slots := 0 } [.ref 0, .int i, .int v] (cMo M) (gD (.inl (some (.int 0))) (cMo (wTh M 1))) := by
  refine gM_of rfl rfl (Nat.le_of_ble_eq_true rfl) (fun sc => ?_)
  refine gW_b D_Mo_set 0 4 (pc' := 4) (l' := [(0, .ref 0), (1, .int i), (2, .int v)]) (st' := [.int 5, .int 0, .int i, .ref 0]) (h' := cMo M) (P := True) rfl trivial ?_
  refine gW_callS (n_in_f i 0 5 (h.elim Or.inl fun z => Or.inr (i6_5 z))) lk_Mo_32 [] (gdec_at D_Mo_set 4 rfl) (st := [.ref 0]) rfl rfl ⟨rfl, rfl⟩ (Nat.le_of_ble_eq_true rfl) (Nat.le_of_ble_eq_true rfl) ⟨Nat.le_of_ble_eq_true rfl, Nat.le_of_ble_eq_true rfl⟩ ⟨Nat.le_of_ble_eq_true rfl, Nat.le_of_ble_eq_true rfl⟩ (gAft_r rfl rfl (h' := cMo M) (st' := [.int 0, .ref 0]) (pc' := 7) (cs' := 0) (ss' := 0) rfl rfl rfl rfl rfl ?_)
  refine gW_if_ne (gdec_at D_Mo_set 5 rfl) (tgt := 14) rfl (fun cq => absurd (by decide) cq) (fun _ => ?_)
  refine gW_b D_Mo_set 6 2 (pc' := 27) (l' := [(0, .ref 0), (1, .int i), (2, .int v)]) (st' := [.int 1, .ref 0]) (h' := cMo M) (P := True) rfl trivial ?_
  refine gW_b D_Mo_set 15 3 (pc' := 34) (l' := [(0, .ref 0), (1, .int i), (2, .int v)]) (st' := [.int 1]) (h' := cMo (wTh M 1)) (P := True) rfl trivial ?_
  refine gW_if_le (gdec_at D_Mo_set 18 rfl) (tgt := 39) rfl (fun cq => absurd cq (by decide)) (fun _ => ?_)
  refine gW_b D_Mo_set 19 1 (pc' := 38) (l' := [(0, .ref 0), (1, .int i), (2, .int v)]) (st' := [.int 0]) (h' := cMo (wTh M 1)) (P := True) rfl trivial ?_
  exact gW_iret (gdec_at D_Mo_set 20 rfl) rfl rfl (Nat.le_of_ble_eq_true rfl) ⟨rfl, rfl⟩ (Nat.le_of_ble_eq_true rfl) (Nat.le_of_ble_eq_true rfl)
theorem n_set_x2 (M : gMo) (k : Nat) (v : Int32) (hk : k < 6) (h : (v < gLo k ∨ gHi k < v) ∨ (k = 5 ∧ v = 1)) : gM K_Mo_set { frames := 2, locals := 43, cells := 0, slots := 0 } [.ref 0, .int (nI k), .int v] (cMo M) (gD (.inl (some (.int 0))) (cMo (wTh M 2))) := by
  refine gM_of rfl rfl (Nat.le_of_ble_eq_true rfl) (fun sc => ?_)
  refine gW_b D_Mo_set 0 4 (pc' := 4) (l' := [(0, .ref 0), (1, .int (nI k)), (2, .int v)]) (st' := [.int 5, .int 0, .int (nI k), .ref 0]) (h' := cMo M) (P := True) rfl trivial ?_
  refine gW_callS (n_in_t (nI k) 0 5 (mt (glt (rfl : nI k = nI k) (gk 0) (by omega) (by omega)).mp (by omega)) (mt (glt (gk 5) (rfl : nI k = nI k) (by omega) (by omega)).mp (by omega))) lk_Mo_32 [] (gdec_at D_Mo_set 4 rfl) (st := [.ref 0]) rfl rfl ⟨rfl, rfl⟩ (Nat.le_of_ble_eq_true rfl) (Nat.le_of_ble_eq_true rfl) ⟨Nat.le_of_ble_eq_true rfl, Nat.le_of_ble_eq_true rfl⟩ ⟨Nat.le_of_ble_eq_true rfl, Nat.le_of_ble_eq_true rfl⟩ (gAft_r rfl rfl (h' := cMo M) (st' := [.int 1, .ref 0]) (pc' := 7) (cs' := 0) (ss' := 0) rfl rfl rfl rfl rfl ?_)
  refine gW_if_ne (gdec_at D_Mo_set 5 rfl) (tgt := 14) rfl (fun _ => ?_) (fun cq => absurd cq (by decide))
  refine gW_b D_Mo_set 8 2 (pc' := 16) (l' := [(0, .ref 0), (1, .int (nI k)), (2, .int v)]) (st' := [.int v, .int (nI k), .ref 0]) (h' := cMo M) (P := True) rfl trivial ?_
  refine gW_callS (n_isValue_f k v hk h) lk_Mo_85 [] (gdec_at D_Mo_set 10 rfl) (st := [.ref 0]) rfl rfl ⟨rfl, rfl⟩ (Nat.le_of_ble_eq_true rfl) (Nat.le_of_ble_eq_true rfl) ⟨Nat.le_of_ble_eq_true rfl, Nat.le_of_ble_eq_true rfl⟩ ⟨Nat.le_of_ble_eq_true rfl, Nat.le_of_ble_eq_true rfl⟩ (gAft_r rfl rfl (h' := cMo M) (st' := [.int 0, .ref 0]) (pc' := 19) (cs' := 0) (ss' := 0) rfl rfl rfl rfl rfl ?_)
  refine gW_if_eq (gdec_at D_Mo_set 11 rfl) (tgt := 26) rfl (fun _ => ?_) (fun cq => absurd (by decide) cq)
  refine gW_b D_Mo_set 14 4 (pc' := 34) (l' := [(0, .ref 0), (1, .int (nI k)), (2, .int v)]) (st' := [.int 2]) (h' := cMo (wTh M 2)) (P := True) rfl trivial ?_
  refine gW_if_le (gdec_at D_Mo_set 18 rfl) (tgt := 39) rfl (fun cq => absurd cq (by decide)) (fun _ => ?_)
  refine gW_b D_Mo_set 19 1 (pc' := 38) (l' := [(0, .ref 0), (1, .int (nI k)), (2, .int v)]) (st' := [.int 0]) (h' := cMo (wTh M 2)) (P := True) rfl trivial ?_
  exact gW_iret (gdec_at D_Mo_set 20 rfl) rfl rfl (Nat.le_of_ble_eq_true rfl) ⟨rfl, rfl⟩ (Nat.le_of_ble_eq_true rfl) (Nat.le_of_ble_eq_true rfl)
theorem k_isAhead (M : gMo) (k s r : Nat) (hk : k < 5) (hs : s < 10) (hr : r < 10) {sc : Nat × (Nat → Int32)} {n0 : Nat} (hn0 : n0 ≤ 7) : gW K_Mo_isAhead sc { frames := 1, locals := 22, cells := 0, slots := 0 } n0 (gD (.inl (some (.int (bI (cb k (dG (mD M)) s r))))) (cMo M)) 0 0 16 [(0, .ref 0), (1, .int (nI s)), (2, .int (nI r)), (3, .int (nI k))] [] (cMo M) := by
  refine gW_b D_Mo_isAhead 9 3 (pc' := 19) (l' := [(0, .ref 0), (1, .int (nI s)), (2, .int (nI r)), (3, .int (nI k))]) (st' := [.int (nI k), .int (nI s), .ref 0]) (h' := cMo M) (P := True) rfl trivial ?_
  refine gW_callV (n_its M s k (by omega) (by omega)) lk_Mo_75 [0, 1, 2, 3, 4, 5, 6] (gdec_at D_Mo_isAhead 12 rfl) (st := []) rfl rfl ⟨rfl, rfl⟩ (Nat.le_of_ble_eq_true rfl) rfl (by decide) rfl (Nat.le_of_ble_eq_true rfl) ⟨Nat.le_of_ble_eq_true rfl, Nat.le_of_ble_eq_true rfl⟩ ⟨Nat.le_of_ble_eq_true rfl, Nat.le_of_ble_eq_true rfl⟩ (gAft_r rfl rfl (h' := cMo M) (st' := [.int ((dG (mD M)) (s * 5 + k))]) (pc' := 22) (cs' := 0) (ss' := 0) rfl rfl rfl rfl rfl ?_)
  refine gW_b D_Mo_isAhead 13 3 (pc' := 25) (l' := [(0, .ref 0), (1, .int (nI s)), (2, .int (nI r)), (3, .int (nI k))]) (st' := [.int (nI k), .int (nI r), .ref 0, .int ((dG (mD M)) (s * 5 + k))]) (h' := cMo M) (P := True) rfl trivial ?_
  refine gW_callV (n_its M r k (by omega) (by omega)) lk_Mo_75 [0, 1, 2, 3, 4, 5, 6] (gdec_at D_Mo_isAhead 16 rfl) (st := [.int ((dG (mD M)) (s * 5 + k))]) rfl rfl ⟨rfl, rfl⟩ (Nat.le_of_ble_eq_true rfl) rfl (by decide) rfl (Nat.le_of_ble_eq_true rfl) ⟨Nat.le_of_ble_eq_true rfl, Nat.le_of_ble_eq_true rfl⟩ ⟨Nat.le_of_ble_eq_true rfl, Nat.le_of_ble_eq_true rfl⟩ (gAft_r rfl rfl (h' := cMo M) (st' := [.int ((dG (mD M)) (r * 5 + k)), .int ((dG (mD M)) (s * 5 + k))]) (pc' := 28) (cs' := 0) (ss' := 0) rfl rfl rfl rfl rfl ?_)
  refine gW_ic_eq (gdec_at D_Mo_isAhead 17 rfl) (tgt := 54) rfl (fun c => ?_) (fun c => ?_)
  · skip
    refine gW_b D_Mo_isAhead 31 3 (pc' := 57) (l' := [(0, .ref 0), (1, .int (nI s)), (2, .int (nI r)), (3, .int (nI k))]) (st' := [.int 0, .int (nI s), .ref 0]) (h' := cMo M) (P := True) rfl trivial ?_
    refine gW_callV (n_its M s 0 (by omega) (by omega)) lk_Mo_75 [0, 1, 2, 3, 4, 5, 6] (gdec_at D_Mo_isAhead 34 rfl) (st := []) rfl rfl ⟨rfl, rfl⟩ (Nat.le_of_ble_eq_true rfl) rfl (by decide) rfl (Nat.le_of_ble_eq_true rfl) ⟨Nat.le_of_ble_eq_true rfl, Nat.le_of_ble_eq_true rfl⟩ ⟨Nat.le_of_ble_eq_true rfl, Nat.le_of_ble_eq_true rfl⟩ (gAft_r rfl rfl (h' := cMo M) (st' := [.int ((dG (mD M)) (s * 5 + 0))]) (pc' := 60) (cs' := 0) (ss' := 0) rfl rfl rfl rfl rfl ?_)
    refine gW_b D_Mo_isAhead 35 3 (pc' := 63) (l' := [(0, .ref 0), (1, .int (nI s)), (2, .int (nI r)), (3, .int (nI k))]) (st' := [.int 0, .int (nI r), .ref 0, .int ((dG (mD M)) (s * 5 + 0))]) (h' := cMo M) (P := True) rfl trivial ?_
    refine gW_callV (n_its M r 0 (by omega) (by omega)) lk_Mo_75 [0, 1, 2, 3, 4, 5, 6] (gdec_at D_Mo_isAhead 38 rfl) (st := [.int ((dG (mD M)) (s * 5 + 0))]) rfl rfl ⟨rfl, rfl⟩ (Nat.le_of_ble_eq_true rfl) rfl (by decide) rfl (Nat.le_of_ble_eq_true rfl) ⟨Nat.le_of_ble_eq_true rfl, Nat.le_of_ble_eq_true rfl⟩ ⟨Nat.le_of_ble_eq_true rfl, Nat.le_of_ble_eq_true rfl⟩ (gAft_r rfl rfl (h' := cMo M) (st' := [.int ((dG (mD M)) (r * 5 + 0)), .int ((dG (mD M)) (s * 5 + 0))]) (pc' := 66) (cs' := 0) (ss' := 0) rfl rfl rfl rfl rfl ?_)
    refine gW_ic_ge (gdec_at D_Mo_isAhead 39 rfl) (tgt := 73) rfl (fun e => ?_) (fun e => ?_)
    · skip
      refine gW_b D_Mo_isAhead 42 1 (pc' := 74) (l' := [(0, .ref 0), (1, .int (nI s)), (2, .int (nI r)), (3, .int (nI k))]) (st' := [.int 0]) (h' := cMo M) (P := True) rfl trivial ?_
      rw [show cb k (dG (mD M)) s r = false from (if_pos c).trans (decide_eq_false (Int32.not_lt.mpr e)), show bI false = 0 from rfl]
      exact gW_iret (gdec_at D_Mo_isAhead 43 rfl) rfl rfl hn0 ⟨rfl, rfl⟩ (Nat.le_of_ble_eq_true rfl) (Nat.le_of_ble_eq_true rfl)
    · skip
      refine gW_b D_Mo_isAhead 40 2 (pc' := 74) (l' := [(0, .ref 0), (1, .int (nI s)), (2, .int (nI r)), (3, .int (nI k))]) (st' := [.int 1]) (h' := cMo M) (P := True) rfl trivial ?_
      rw [show cb k (dG (mD M)) s r = true from (if_pos c).trans (decide_eq_true (Int32.not_le.mp e)), show bI true = 1 from rfl]
      exact gW_iret (gdec_at D_Mo_isAhead 43 rfl) rfl rfl hn0 ⟨rfl, rfl⟩ (Nat.le_of_ble_eq_true rfl) (Nat.le_of_ble_eq_true rfl)
  · skip
    refine gW_b D_Mo_isAhead 18 3 (pc' := 34) (l' := [(0, .ref 0), (1, .int (nI s)), (2, .int (nI r)), (3, .int (nI k))]) (st' := [.int (nI k), .int (nI s), .ref 0]) (h' := cMo M) (P := True) rfl trivial ?_
    refine gW_callV (n_its M s k (by omega) (by omega)) lk_Mo_75 [0, 1, 2, 3, 4, 5, 6] (gdec_at D_Mo_isAhead 21 rfl) (st := []) rfl rfl ⟨rfl, rfl⟩ (Nat.le_of_ble_eq_true rfl) rfl (by decide) rfl (Nat.le_of_ble_eq_true rfl) ⟨Nat.le_of_ble_eq_true rfl, Nat.le_of_ble_eq_true rfl⟩ ⟨Nat.le_of_ble_eq_true rfl, Nat.le_of_ble_eq_true rfl⟩ (gAft_r rfl rfl (h' := cMo M) (st' := [.int ((dG (mD M)) (s * 5 + k))]) (pc' := 37) (cs' := 0) (ss' := 0) rfl rfl rfl rfl rfl ?_)
    refine gW_b D_Mo_isAhead 22 3 (pc' := 40) (l' := [(0, .ref 0), (1, .int (nI s)), (2, .int (nI r)), (3, .int (nI k))]) (st' := [.int (nI k), .int (nI r), .ref 0, .int ((dG (mD M)) (s * 5 + k))]) (h' := cMo M) (P := True) rfl trivial ?_
    refine gW_callV (n_its M r k (by omega) (by omega)) lk_Mo_75 [0, 1, 2, 3, 4, 5, 6] (gdec_at D_Mo_isAhead 25 rfl) (st := [.int ((dG (mD M)) (s * 5 + k))]) rfl rfl ⟨rfl, rfl⟩ (Nat.le_of_ble_eq_true rfl) rfl (by decide) rfl (Nat.le_of_ble_eq_true rfl) ⟨Nat.le_of_ble_eq_true rfl, Nat.le_of_ble_eq_true rfl⟩ ⟨Nat.le_of_ble_eq_true rfl, Nat.le_of_ble_eq_true rfl⟩ (gAft_r rfl rfl (h' := cMo M) (st' := [.int ((dG (mD M)) (r * 5 + k)), .int ((dG (mD M)) (s * 5 + k))]) (pc' := 43) (cs' := 0) (ss' := 0) rfl rfl rfl rfl rfl ?_)
    refine gW_ic_ge (gdec_at D_Mo_isAhead 26 rfl) (tgt := 50) rfl (fun e => ?_) (fun e => ?_)
    · skip
      refine gW_b D_Mo_isAhead 29 2 (pc' := 74) (l' := [(0, .ref 0), (1, .int (nI s)), (2, .int (nI r)), (3, .int (nI k))]) (st' := [.int 0]) (h' := cMo M) (P := True) rfl trivial ?_
      rw [show cb k (dG (mD M)) s r = false from (if_neg c).trans (decide_eq_false (Int32.not_lt.mpr e)), show bI false = 0 from rfl]
      exact gW_iret (gdec_at D_Mo_isAhead 43 rfl) rfl rfl hn0 ⟨rfl, rfl⟩ (Nat.le_of_ble_eq_true rfl) (Nat.le_of_ble_eq_true rfl)
    · skip
      refine gW_b D_Mo_isAhead 27 2 (pc' := 74) (l' := [(0, .ref 0), (1, .int (nI s)), (2, .int (nI r)), (3, .int (nI k))]) (st' := [.int 1]) (h' := cMo M) (P := True) rfl trivial ?_
      rw [show cb k (dG (mD M)) s r = true from (if_neg c).trans (decide_eq_true (Int32.not_le.mp e)), show bI true = 1 from rfl]
      exact gW_iret (gdec_at D_Mo_isAhead 43 rfl) rfl rfl hn0 ⟨rfl, rfl⟩ (Nat.le_of_ble_eq_true rfl) (Nat.le_of_ble_eq_true rfl)
theorem n_isAhead (M : gMo) (s r : Nat) (hs : s < 10) (hr : r < 10) : gM K_Mo_isAhead { frames := 1, locals := 22, cells := 0, slots := 0 } [.ref 0, .int (nI s), .int (nI r)] (cMo M) (gD (.inl (some (.int (bI (cb (keyOf (dSt (mD M) 2)) (dG (mD M)) s r))))) (cMo M)) := by
  refine gM_of rfl rfl (Nat.le_of_ble_eq_true rfl) (fun sc => ?_)
  refine gW_b D_Mo_isAhead 0 4 (pc' := 7) (l' := [(0, .ref 0), (1, .int (nI s)), (2, .int (nI r))]) (st' := [.int ((dSt (mD M)) 2)]) (h' := cMo M) (P := vp_in 30 103 ∧ True) rfl ⟨(gvl 30 103 (by omega) (by omega)), trivial⟩ ?_
  refine gW_if_ne (gdec_at D_Mo_isAhead 4 rfl) (tgt := 14) rfl (fun c => ?_) (fun c => ?_)
  · skip
    rw [show keyOf (dSt (mD M) 2) = 2 from if_neg c]
    refine gW_b D_Mo_isAhead 7 2 (pc' := 16) (l' := [(0, .ref 0), (1, .int (nI s)), (2, .int (nI r)), (3, .int 2)]) (st' := []) (h' := cMo M) (P := True) rfl trivial ?_
    exact k_isAhead M 2 s r (by omega) hs hr (Nat.le_of_ble_eq_true rfl)
  · skip
    rw [show keyOf (dSt (mD M) 2) = 3 from if_pos c]
    refine gW_b D_Mo_isAhead 5 2 (pc' := 15) (l' := [(0, .ref 0), (1, .int (nI s)), (2, .int (nI r))]) (st' := [.int 3]) (h' := cMo M) (P := True) rfl trivial ?_
    refine gW_b D_Mo_isAhead 8 1 (pc' := 16) (l' := [(0, .ref 0), (1, .int (nI s)), (2, .int (nI r)), (3, .int 3)]) (st' := []) (h' := cMo M) (P := True) rfl trivial ?_
    exact k_isAhead M 3 s r (by omega) hs hr (Nat.le_of_ble_eq_true rfl)
def loI (k : Nat) (g : Nat → Int32) (s : Nat) : Nat → (Nat → Nat) → Nat → Nat
  | 0, od => updN od 0 s
  | a + 1, od => if bI (cb k g s (od a)) = 0 then updN od (a + 1) s else loI k g s a (updN od (a + 1) (od a))
def loR (k : Nat) (g : Nat → Int32) : Nat → (Nat → Nat) → Nat → Nat
  | 0, od => od
  | s + 1, od => loI k g s s (loR k g s od)
def odOK (od : Nat → Nat) : Prop := ∀ j, od j < 10
theorem odOK_u {od : Nat → Nat} (h : odOK od) (k v : Nat) (hv : v < 10) : odOK (updN od k v) := by
  intro j
  unfold updN
  split
  · exact hv
  · exact h j
theorem odOK_I {k : Nat} {g : Nat → Int32} {s : Nat} (hs : s < 10) : ∀ (a : Nat) (od : Nat → Nat), odOK od → odOK (loI k g s a od)
  | 0, od, h => odOK_u h 0 s hs
  | a + 1, od, h => by
    unfold loI
    split
    · exact odOK_u h _ s hs
    · exact odOK_I hs a _ (odOK_u h _ _ (h a))
theorem odOK_R {k : Nat} {g : Nat → Int32} : ∀ (s : Nat) (od : Nat → Nat), s ≤ 10 → odOK od → odOK (loR k g s od)
  | 0, od, _, h => h
  | s + 1, od, hs, h => odOK_I (by omega) s _ (odOK_R s od (by omega) h)
theorem k_layOrder1 (M : gMo) (s : Nat) (hs : s < 10) {sc : Nat × (Nat → Int32)} {n0 : Nat} {E : gO → gH → Prop} : ∀ (a : Nat) (od : Nat → Nat), a ≤ s → odOK od → (kk : gW K_Mo_layOrder sc { frames := 2, locals := 45, cells := 0, slots := 0 } n0 E 0 0 2 [(0, .ref 0), (1, .int (nI (s + 1)))] [] (cMo (wOd M (loI (keyOf (dSt (mD M) 2)) (dG (mD M)) s a od)))) → gW K_Mo_layOrder sc { frames := 2, locals := 45, cells := 0, slots := 0 } n0 E 0 0 15 [(0, .ref 0), (1, .int (nI s)), (2, .int (nI a))] [] (cMo (wOd M od)) := by
  intro a
  induction a with
  | zero =>
    intro od ha ho kk
    refine gW_b D_Mo_layOrder 10 1 (pc' := 16) (l' := [(0, .ref 0), (1, .int (nI s)), (2, .int 0)]) (st' := [.int 0]) (h' := cMo (wOd M od)) (P := True) rfl trivial ?_
    refine gW_if_le (gdec_at D_Mo_layOrder 11 rfl) (tgt := 55) rfl (fun _ => ?_) (fun cq => absurd (by decide) cq)
    refine gW_b D_Mo_layOrder 34 4 (pc' := 61) (l' := [(0, .ref 0), (1, .int (nI s)), (2, .int 0)]) (st' := [.int (nI s), .int 0, .ref 5]) (h' := cMo (wOd M od)) (P := True) rfl trivial ?_
    refine gW_b D_Mo_layOrder 38 1 (pc' := 62) (l' := [(0, .ref 0), (1, .int (nI s)), (2, .int 0)]) (st' := []) (h' := [cO 6 [.int (mTh M), .ref 1, .ref 2, .int (nI (mN M)), .ref 3, .ref 4, .int (nI (mTy M)), .ref 5, .int (nI (mSt M)), .ref 6, .int (nI (mPm M)), .int (nI (mSpt M)), .int (mWr M), .long (mHs M)], cI 103 (zD (mD M)), cI 618 (svF (mDs M)), cI 103 (zD (mSp M)), cI 60 (mBf M), cI 10 (upd (oF od) 0 (nI s)), cI 39 (mPa M)]) (P := vp_in 0 10 ∧ True) rfl ⟨(gvl 0 10 (by omega) (by omega)), trivial⟩ ?_
    rw [show upd (oF od) 0 (nI s) = oF (updN od 0 s) from oF_u od 0 s]
    refine gW_b D_Mo_layOrder 39 2 (pc' := 2) (l' := [(0, .ref 0), (1, .int ((nI s) + 1)), (2, .int 0)]) (st' := []) (h' := cMo (wOd M (updN od 0 s))) (P := True) rfl trivial ?_
    rw [show ((nI s) + 1 : Int32) = nI (s + 1) from (gadd (rfl : nI s = nI s) (gk 1))]
    refine gW_l [0, 1] (l' := [(0, .ref 0), (1, .int (nI (s + 1)))]) rfl ?_
    exact kk
  | succ a ih =>
    intro od ha ho kk
    have hb := ho a
    refine gW_b D_Mo_layOrder 10 1 (pc' := 16) (l' := [(0, .ref 0), (1, .int (nI s)), (2, .int (nI (a + 1)))]) (st' := [.int (nI (a + 1))]) (h' := cMo (wOd M od)) (P := True) rfl trivial ?_
    refine gW_if_le (gdec_at D_Mo_layOrder 11 rfl) (tgt := 55) rfl (fun cq => absurd cq (mt (gle (rfl : nI (a + 1) = nI (a + 1)) (gk 0) (by omega) (by omega)).mp (by omega))) (fun _ => ?_)
    refine gW_b D_Mo_layOrder 12 8 (pc' := 29) (l' := [(0, .ref 0), (1, .int (nI s)), (2, .int (nI (a + 1)))]) (st' := [.int (nI (od ((nI (a + 1)) - 1).toNatClampNeg)), .int (nI s), .ref 0]) (h' := cMo (wOd M od)) (P := vp_in ((nI (a + 1)) - 1) 10 ∧ True) rfl ⟨(gvin (gsub1 (rfl : nI (a + 1) = nI (a + 1))) (by omega) (by omega)), trivial⟩ ?_
    rw [show ((nI (a + 1)) - 1).toNatClampNeg = a from gclp (gsub1 (rfl : nI (a + 1) = nI (a + 1))) (by omega)]
    refine gW_callV (n_isAhead (wOd M od) s (od a) (by omega) (by omega)) lk_Mo_89 [0, 1, 2, 3, 4, 5, 6] (gdec_at D_Mo_layOrder 20 rfl) (st := []) rfl rfl ⟨rfl, rfl⟩ (Nat.le_of_ble_eq_true rfl) rfl (by decide) rfl (Nat.le_of_ble_eq_true rfl) ⟨Nat.le_of_ble_eq_true rfl, Nat.le_of_ble_eq_true rfl⟩ ⟨Nat.le_of_ble_eq_true rfl, Nat.le_of_ble_eq_true rfl⟩ (gAft_r rfl rfl (h' := cMo (wOd M od)) (st' := [.int (bI (cb (keyOf ((dSt (mD M)) 2)) (dG (mD M)) s (od a)))]) (pc' := 32) (cs' := 0) (ss' := 0) rfl rfl rfl rfl rfl ?_)
    refine gW_if_eq (gdec_at D_Mo_layOrder 21 rfl) (tgt := 55) rfl (fun c => ?_) (fun c => ?_)
    · skip
      refine gW_b D_Mo_layOrder 34 4 (pc' := 61) (l' := [(0, .ref 0), (1, .int (nI s)), (2, .int (nI (a + 1)))]) (st' := [.int (nI s), .int (nI (a + 1)), .ref 5]) (h' := cMo (wOd M od)) (P := True) rfl trivial ?_
      refine gW_b D_Mo_layOrder 38 1 (pc' := 62) (l' := [(0, .ref 0), (1, .int (nI s)), (2, .int (nI (a + 1)))]) (st' := []) (h' := [cO 6 [.int (mTh M), .ref 1, .ref 2, .int (nI (mN M)), .ref 3, .ref 4, .int (nI (mTy M)), .ref 5, .int (nI (mSt M)), .ref 6, .int (nI (mPm M)), .int (nI (mSpt M)), .int (mWr M), .long (mHs M)], cI 103 (zD (mD M)), cI 618 (svF (mDs M)), cI 103 (zD (mSp M)), cI 60 (mBf M), cI 10 (upd (oF od) ((nI (a + 1)).toNatClampNeg) (nI s)), cI 39 (mPa M)]) (P := vp_in (nI (a + 1)) 10 ∧ True) rfl ⟨(gvin (rfl : nI (a + 1) = nI (a + 1)) (by omega) (by omega)), trivial⟩ ?_
      rw [show (nI (a + 1)).toNatClampNeg = (a + 1) from gclp (rfl : nI (a + 1) = nI (a + 1)) (by omega)]
      rw [show upd (oF od) (a + 1) (nI s) = oF (updN od (a + 1) s) from oF_u od (a + 1) s]
      refine gW_b D_Mo_layOrder 39 2 (pc' := 2) (l' := [(0, .ref 0), (1, .int ((nI s) + 1)), (2, .int (nI (a + 1)))]) (st' := []) (h' := cMo (wOd M (updN od (a + 1) s))) (P := True) rfl trivial ?_
      rw [show ((nI s) + 1 : Int32) = nI (s + 1) from (gadd (rfl : nI s = nI s) (gk 1))]
      refine gW_l [0, 1] (l' := [(0, .ref 0), (1, .int (nI (s + 1)))]) rfl ?_
      rw [show loI (keyOf (dSt (mD M) 2)) (dG (mD M)) s (a + 1) od = updN od (a + 1) s from if_pos c] at kk
      exact kk
    · skip
      refine gW_b D_Mo_layOrder 22 9 (pc' := 48) (l' := [(0, .ref 0), (1, .int (nI s)), (2, .int (nI (a + 1)))]) (st' := [.int (nI (od ((nI (a + 1)) - 1).toNatClampNeg)), .int (nI (a + 1)), .ref 5]) (h' := cMo (wOd M od)) (P := vp_in ((nI (a + 1)) - 1) 10 ∧ True) rfl ⟨(gvin (gsub1 (rfl : nI (a + 1) = nI (a + 1))) (by omega) (by omega)), trivial⟩ ?_
      rw [show ((nI (a + 1)) - 1).toNatClampNeg = a from gclp (gsub1 (rfl : nI (a + 1) = nI (a + 1))) (by omega)]
      refine gW_b D_Mo_layOrder 31 1 (pc' := 49) (l' := [(0, .ref 0), (1, .int (nI s)), (2, .int (nI (a + 1)))]) (st' := []) (h' := [cO 6 [.int (mTh M), .ref 1, .ref 2, .int (nI (mN M)), .ref 3, .ref 4, .int (nI (mTy M)), .ref 5, .int (nI (mSt M)), .ref 6, .int (nI (mPm M)), .int (nI (mSpt M)), .int (mWr M), .long (mHs M)], cI 103 (zD (mD M)), cI 618 (svF (mDs M)), cI 103 (zD (mSp M)), cI 60 (mBf M), cI 10 (upd (oF od) ((nI (a + 1)).toNatClampNeg) (nI (od a))), cI 39 (mPa M)]) (P := vp_in (nI (a + 1)) 10 ∧ True) rfl ⟨(gvin (rfl : nI (a + 1) = nI (a + 1)) (by omega) (by omega)), trivial⟩ ?_
      rw [show (nI (a + 1)).toNatClampNeg = (a + 1) from gclp (rfl : nI (a + 1) = nI (a + 1)) (by omega)]
      rw [show upd (oF od) (a + 1) (nI (od a)) = oF (updN od (a + 1) (od a)) from oF_u od (a + 1) (od a)]
      refine gW_b D_Mo_layOrder 32 2 (pc' := 15) (l' := [(0, .ref 0), (1, .int (nI s)), (2, .int ((nI (a + 1)) + (-1)))]) (st' := []) (h' := cMo (wOd M (updN od (a + 1) (od a)))) (P := True) rfl trivial ?_
      rw [show ((nI (a + 1)) + (-1) : Int32) = nI a from (gpred (rfl : nI (a + 1) = nI (a + 1)))]
      rw [show loI (keyOf (dSt (mD M) 2)) (dG (mD M)) s (a + 1) od = loI (keyOf (dSt (mD M) 2)) (dG (mD M)) s a (updN od (a + 1) (od a)) from if_neg c] at kk
      exact ih _ (by omega) (odOK_u ho _ _ hb) kk
theorem k_layOrder2 (M : gMo) (hs : dSz (mD M) ≤ 10) (ho : odOK (mOd M)) {sc : Nat × (Nat → Int32)} {n0 : Nat} {E : gO → gH → Prop} (kk : gW K_Mo_layOrder sc { frames := 2, locals := 45, cells := 0, slots := 0 } n0 E 0 0 68 [(0, .ref 0), (1, .int (nI (dSz (mD M))))] [] (cMo (wOd M (loR (keyOf (dSt (mD M) 2)) (dG (mD M)) (dSz (mD M)) (mOd M))))) : ∀ (n i : Nat), i + n = dSz (mD M) → gW K_Mo_layOrder sc { frames := 2, locals := 45, cells := 0, slots := 0 } n0 E 0 0 2 [(0, .ref 0), (1, .int (nI i))] [] (cMo (wOd M (loR (keyOf (dSt (mD M) 2)) (dG (mD M)) i (mOd M)))) := by
  intro n
  induction n with
  | zero =>
    intro i hi
    obtain rfl : dSz (mD M) = i := by omega
    refine gW_b D_Mo_layOrder 2 5 (pc' := 10) (l' := [(0, .ref 0), (1, .int (nI (dSz (mD M))))]) (st' := [.int (nI (dSz (mD M))), .int (nI (dSz (mD M)))]) (h' := cMo (wOd M (loR (keyOf (dSt (mD M) 2)) (dG (mD M)) (dSz (mD M)) (mOd M)))) (P := vp_in 52 103 ∧ True) rfl ⟨(gvl 52 103 (by omega) (by omega)), trivial⟩ ?_
    refine gW_ic_ge (gdec_at D_Mo_layOrder 7 rfl) (tgt := 68) rfl (fun _ => ?_) (fun cq => absurd ((gle (rfl : nI (dSz (mD M)) = nI (dSz (mD M))) (rfl : nI (dSz (mD M)) = nI (dSz (mD M))) (by omega) (by omega)).mpr (by omega)) cq)
    exact kk
  | succ n ih =>
    intro i hi
    refine gW_b D_Mo_layOrder 2 5 (pc' := 10) (l' := [(0, .ref 0), (1, .int (nI i))]) (st' := [.int (nI (dSz (mD M))), .int (nI i)]) (h' := cMo (wOd M (loR (keyOf (dSt (mD M) 2)) (dG (mD M)) i (mOd M)))) (P := vp_in 52 103 ∧ True) rfl ⟨(gvl 52 103 (by omega) (by omega)), trivial⟩ ?_
    refine gW_ic_ge (gdec_at D_Mo_layOrder 7 rfl) (tgt := 68) rfl (fun cq => absurd cq (mt (gle (rfl : nI (dSz (mD M)) = nI (dSz (mD M))) (rfl : nI i = nI i) (by omega) (by omega)).mp (by omega))) (fun _ => ?_)
    have ho2 := odOK_R (k := (keyOf (dSt (mD M) 2))) (g := dG (mD M)) i (mOd M) (by omega) ho
    refine gW_b D_Mo_layOrder 8 2 (pc' := 15) (l' := [(0, .ref 0), (1, .int (nI i)), (2, .int (nI i))]) (st' := []) (h' := cMo (wOd M (loR (keyOf (dSt (mD M) 2)) (dG (mD M)) i (mOd M)))) (P := True) rfl trivial ?_
    exact k_layOrder1 M i (by omega) i _ (Nat.le_refl _) ho2 (ih (i + 1) (by omega))
theorem n_layOrder (M : gMo) (hs : dSz (mD M) ≤ 10) (ho : odOK (mOd M)) : gM K_Mo_layOrder { frames := 2, locals := 45, cells := 0, slots := 0 } [.ref 0] (cMo M) (gD (.inl none) (cMo (wOd M (loR (keyOf (dSt (mD M) 2)) (dG (mD M)) (dSz (mD M)) (mOd M))))) := by
  refine gM_of rfl rfl (Nat.le_of_ble_eq_true rfl) (fun sc => ?_)
  refine gW_b D_Mo_layOrder 0 2 (pc' := 2) (l' := [(0, .ref 0), (1, .int 0)]) (st' := []) (h' := cMo M) (P := True) rfl trivial ?_
  refine k_layOrder2 M hs ho ?_ (dSz (mD M)) 0 (Nat.zero_add _)
  exact gW_vret (gdec_at D_Mo_layOrder 41 rfl) rfl (Nat.le_of_ble_eq_true rfl) ⟨rfl, rfl⟩ (Nat.le_of_ble_eq_true rfl) (Nat.le_of_ble_eq_true rfl)
def brkI (q n : Int32) : Int32 := if q = 0 then 0 else n / q
theorem brkI_n {x : Int32} {q n : Nat} (hx : x = nI q) (hq : q ≤ 99) (hn : n < 2 ^ 31) : brkI x (nI n) = nI (n / q) := by
  subst hx
  unfold brkI
  by_cases h : q = 0
  · subst h
    rw [if_pos nI_0, Nat.div_zero]
    rfl
  · rw [if_neg (nI_ne0 (by omega) (by omega)), pk_div hn (by omega) (by omega)]
/-- how many are taken so that c come in, q: setting 5 -/
def tkN (q c : Nat) : Nat := if q < 2 then c else c + (c - 1) / (q - 1)
theorem tkN_iff {q c j : Nat} (hq : q = 0 ∨ 2 ≤ q) (hc : 1 ≤ c) : c + j - (c + j) / q < c ↔ c + j < tkN q c := by
  unfold tkN
  rcases hq with rfl | hq
  · rw [Nat.div_zero, if_pos (by decide)]
    omega
  · rw [if_neg (by omega)]
    obtain ⟨r, rfl⟩ : ∃ r, q = r + 2 := ⟨q - 2, by omega⟩
    have h1 : (j + 1 ≤ (c + j) / (r + 2)) ↔ (j + 1) * (r + 2) ≤ c + j := Nat.le_div_iff_mul_le (by omega)
    have h2 : (j + 1 ≤ (c - 1) / (r + 2 - 1)) ↔ (j + 1) * (r + 2 - 1) ≤ c - 1 := Nat.le_div_iff_mul_le (by omega)
    have h3 : (j + 1) * (r + 2) = (j + 1) * (r + 2 - 1) + (j + 1) := by
      rw [show r + 2 - 1 = r + 1 by omega, show r + 2 = (r + 1) + 1 by omega, Nat.mul_succ]
    have h4 : (c + j) / (r + 2) ≤ c + j := Nat.div_le_self _ _
    omega
theorem tkN_le {q c : Nat} (hc : 1 ≤ c) : c ≤ tkN q c ∧ tkN q c ≤ 2 * c := by
  unfold tkN
  have := Nat.div_le_self (c - 1) (q - 1)
  have h0 := Nat.zero_le ((c - 1) / (q - 1))
  split <;> omega
theorem n_broken (M : gMo) (x : Int32) : gM K_Mo_broken { frames := 0, locals := 0, cells := 0, slots := 0 } [.ref 0, .int x] (cMo M) (gD (.inl (some (.int (brkI (dSt (mD M) 5) x)))) (cMo M)) := by
  refine gM_of rfl rfl (Nat.le_of_ble_eq_true rfl) (fun sc => ?_)
  refine gW_b D_Mo_broken 0 4 (pc' := 7) (l' := [(0, .ref 0), (1, .int x)]) (st' := [.int ((dSt (mD M)) 5)]) (h' := cMo M) (P := vp_in 33 103 ∧ True) rfl ⟨(gvl 33 103 (by omega) (by omega)), trivial⟩ ?_
  refine gW_if_ne (gdec_at D_Mo_broken 4 rfl) (tgt := 14) rfl (fun c => ?_) (fun c => ?_)
  · skip
    refine gW_b D_Mo_broken 7 6 (pc' := 23) (l' := [(0, .ref 0), (1, .int x)]) (st' := [.int (x / ((dSt (mD M)) 5))]) (h' := cMo M) (P := vp_in 33 103 ∧ ¬ ((dSt (mD M)) 5) = 0 ∧ True) rfl ⟨(gvl 33 103 (by omega) (by omega)), c, trivial⟩ ?_
    rw [show brkI (dSt (mD M) 5) x = x / dSt (mD M) 5 from if_neg c]
    exact gW_iret (gdec_at D_Mo_broken 13 rfl) rfl rfl (Nat.le_of_ble_eq_true rfl) ⟨rfl, rfl⟩ (Nat.le_of_ble_eq_true rfl) (Nat.le_of_ble_eq_true rfl)
  · skip
    refine gW_b D_Mo_broken 5 2 (pc' := 23) (l' := [(0, .ref 0), (1, .int x)]) (st' := [.int 0]) (h' := cMo M) (P := True) rfl trivial ?_
    rw [show brkI (dSt (mD M) 5) x = 0 from if_pos c]
    exact gW_iret (gdec_at D_Mo_broken 13 rfl) rfl rfl (Nat.le_of_ble_eq_true rfl) ⟨rfl, rfl⟩ (Nat.le_of_ble_eq_true rfl) (Nat.le_of_ble_eq_true rfl)
theorem k_takenFor (M : gMo) (q c : Nat) (hq : dSt (mD M) 5 = nI q) (hq1 : q = 0 ∨ 2 ≤ q) (hq2 : q ≤ 99) (hc1 : 1 ≤ c) (hc2 : c ≤ 500) {sc : Nat × (Nat → Int32)} {n0 : Nat} (hn0 : n0 ≤ 7) : ∀ (n j : Nat), (c + j) + n = tkN q c → gW K_Mo_takenFor sc { frames := 1, locals := 21, cells := 0, slots := 0 } n0 (gD (.inl (some (.int (nI (tkN q c))))) (cMo M)) 0 0 2 [(0, .ref 0), (1, .int (nI c)), (2, .int (nI (c + j)))] [] (cMo M) := by
  intro n
  have hb := tkN_le (q := q) hc1
  induction n with
  | zero =>
    intro j hj
    have hi := tkN_iff (j := j) hq1 hc1
    have hd := Nat.div_le_self (c + j) q
    have hd0 := Nat.zero_le ((c + j) / q)
    refine gW_b D_Mo_takenFor 2 3 (pc' := 5) (l' := [(0, .ref 0), (1, .int (nI c)), (2, .int (nI (c + j)))]) (st' := [.int (nI (c + j)), .ref 0, .int (nI (c + j))]) (h' := cMo M) (P := True) rfl trivial ?_
    refine gW_callV (n_broken M (nI (c + j)) ) lk_Mo_92 [0, 1, 2, 3, 4, 5, 6] (gdec_at D_Mo_takenFor 5 rfl) (st := [.int (nI (c + j))]) rfl rfl ⟨rfl, rfl⟩ (Nat.le_of_ble_eq_true rfl) rfl (by decide) rfl (Nat.le_of_ble_eq_true rfl) ⟨Nat.le_of_ble_eq_true rfl, Nat.le_of_ble_eq_true rfl⟩ ⟨Nat.le_of_ble_eq_true rfl, Nat.le_of_ble_eq_true rfl⟩ (gAft_r rfl rfl (h' := cMo M) (st' := [.int (brkI ((dSt (mD M)) 5) (nI (c + j))), .int (nI (c + j))]) (pc' := 8) (cs' := 0) (ss' := 0) rfl rfl rfl rfl rfl ?_)
    rw [show (brkI ((dSt (mD M)) 5) (nI (c + j)) : Int32) = nI ((c + j) / q) from brkI_n hq hq2 (by omega)]
    refine gW_b D_Mo_takenFor 6 2 (pc' := 10) (l' := [(0, .ref 0), (1, .int (nI c)), (2, .int (nI (c + j)))]) (st' := [.int (nI c), .int ((nI (c + j)) - (nI ((c + j) / q)))]) (h' := cMo M) (P := True) rfl trivial ?_
    rw [show ((nI (c + j)) - (nI ((c + j) / q)) : Int32) = nI (c + j - (c + j) / q) from pk_sub hd]
    refine gW_ic_ge (gdec_at D_Mo_takenFor 8 rfl) (tgt := 19) rfl (fun _ => ?_) (fun cq => absurd ((gle (rfl : nI c = nI c) (rfl : nI (c + j - (c + j) / q) = nI (c + j - (c + j) / q)) (by omega) (by omega)).mpr (by omega)) cq)
    refine gW_b D_Mo_takenFor 11 1 (pc' := 20) (l' := [(0, .ref 0), (1, .int (nI c)), (2, .int (nI (c + j)))]) (st' := [.int (nI (c + j))]) (h' := cMo M) (P := True) rfl trivial ?_
    rw [show c + j = tkN q c by omega]
    exact gW_iret (gdec_at D_Mo_takenFor 12 rfl) rfl rfl hn0 ⟨rfl, rfl⟩ (Nat.le_of_ble_eq_true rfl) (Nat.le_of_ble_eq_true rfl)
  | succ n ih =>
    intro j hj
    have hi := tkN_iff (j := j) hq1 hc1
    have hd := Nat.div_le_self (c + j) q
    have hd0 := Nat.zero_le ((c + j) / q)
    refine gW_b D_Mo_takenFor 2 3 (pc' := 5) (l' := [(0, .ref 0), (1, .int (nI c)), (2, .int (nI (c + j)))]) (st' := [.int (nI (c + j)), .ref 0, .int (nI (c + j))]) (h' := cMo M) (P := True) rfl trivial ?_
    refine gW_callV (n_broken M (nI (c + j)) ) lk_Mo_92 [0, 1, 2, 3, 4, 5, 6] (gdec_at D_Mo_takenFor 5 rfl) (st := [.int (nI (c + j))]) rfl rfl ⟨rfl, rfl⟩ (Nat.le_of_ble_eq_true rfl) rfl (by decide) rfl (Nat.le_of_ble_eq_true rfl) ⟨Nat.le_of_ble_eq_true rfl, Nat.le_of_ble_eq_true rfl⟩ ⟨Nat.le_of_ble_eq_true rfl, Nat.le_of_ble_eq_true rfl⟩ (gAft_r rfl rfl (h' := cMo M) (st' := [.int (brkI ((dSt (mD M)) 5) (nI (c + j))), .int (nI (c + j))]) (pc' := 8) (cs' := 0) (ss' := 0) rfl rfl rfl rfl rfl ?_)
    rw [show (brkI ((dSt (mD M)) 5) (nI (c + j)) : Int32) = nI ((c + j) / q) from brkI_n hq hq2 (by omega)]
    refine gW_b D_Mo_takenFor 6 2 (pc' := 10) (l' := [(0, .ref 0), (1, .int (nI c)), (2, .int (nI (c + j)))]) (st' := [.int (nI c), .int ((nI (c + j)) - (nI ((c + j) / q)))]) (h' := cMo M) (P := True) rfl trivial ?_
    rw [show ((nI (c + j)) - (nI ((c + j) / q)) : Int32) = nI (c + j - (c + j) / q) from pk_sub hd]
    refine gW_ic_ge (gdec_at D_Mo_takenFor 8 rfl) (tgt := 19) rfl (fun cq => absurd cq (mt (gle (rfl : nI c = nI c) (rfl : nI (c + j - (c + j) / q) = nI (c + j - (c + j) / q)) (by omega) (by omega)).mp (by omega))) (fun _ => ?_)
    refine gW_b D_Mo_takenFor 9 2 (pc' := 2) (l' := [(0, .ref 0), (1, .int (nI c)), (2, .int ((nI (c + j)) + 1))]) (st' := []) (h' := cMo M) (P := True) rfl trivial ?_
    rw [show ((nI (c + j)) + 1 : Int32) = nI ((c + j) + 1) from (gadd (rfl : nI (c + j) = nI (c + j)) (gk 1))]
    exact ih (j + 1) (by omega)
theorem n_takenFor (M : gMo) (q c : Nat) (hq : dSt (mD M) 5 = nI q) (hq1 : q = 0 ∨ 2 ≤ q) (hq2 : q ≤ 99) (hc1 : 1 ≤ c) (hc2 : c ≤ 500) : gM K_Mo_takenFor { frames := 1, locals := 21, cells := 0, slots := 0 } [.ref 0, .int (nI c)] (cMo M) (gD (.inl (some (.int (nI (tkN q c))))) (cMo M)) := by
  refine gM_of rfl rfl (Nat.le_of_ble_eq_true rfl) (fun sc => ?_)
  refine gW_b D_Mo_takenFor 0 2 (pc' := 2) (l' := [(0, .ref 0), (1, .int (nI c)), (2, .int (nI c))]) (st' := []) (h' := cMo M) (P := True) rfl trivial ?_
  have hb := tkN_le (q := q) hc1
  exact k_takenFor M q c hq hq1 hq2 hc1 hc2 (Nat.le_of_ble_eq_true rfl) (tkN q c - c) 0 (by omega)
/-- the cubes of tone t in the first i trays, without the mixed up ones -/
def rpI (f : Nat → Int32) (t : Nat) : Nat → Int32
  | 0 => 0
  | i + 1 => if tn f i ≤ 1 then rpI f t i + f (i * 4 + t) else rpI f t i
theorem n_inTrays_a (M : gMo) (t : Nat) (ht : t < 4) : gM K_Mo_inTrays { frames := 2, locals := 45, cells := 0, slots := 0 } [.ref 0, .int (nI t), .int 0] (cMo M) (gD (.inl (some (.int (hO (dTr (mD M)) t)))) (cMo M)) := by
  refine gM_of rfl rfl (Nat.le_of_ble_eq_true rfl) (fun sc => ?_)
  refine gW_b D_Mo_inTrays 0 6 (pc' := 9) (l' := [(0, .ref 0), (1, .int (nI t)), (2, .int 0), (3, .int 0), (4, .int 0)]) (st' := [.int 6, .int 0]) (h' := cMo M) (P := True) rfl trivial ?_
  refine gW_ic_ge (gdec_at D_Mo_inTrays 6 rfl) (tgt := 46) rfl (fun cq => absurd cq (by decide)) (fun _ => ?_)
  refine gW_b D_Mo_inTrays 7 2 (pc' := 14) (l' := [(0, .ref 0), (1, .int (nI t)), (2, .int 0), (3, .int 0), (4, .int 0)]) (st' := [.int 0, .int 0]) (h' := cMo M) (P := True) rfl trivial ?_
  refine gW_if_eq (gdec_at D_Mo_inTrays 9 rfl) (tgt := 31) rfl (fun _ => ?_) (fun cq => absurd (by decide) cq)
  refine gW_b D_Mo_inTrays 17 3 (pc' := 35) (l' := [(0, .ref 0), (1, .int (nI t)), (2, .int 0), (3, .int 0), (4, .int 0)]) (st' := [.int (nI t), .int 0, .ref 0, .int 0]) (h' := cMo M) (P := True) rfl trivial ?_
  refine gW_callV (n_cubes M 0 t (by omega) (by omega)) lk_Mo_39 [0, 1, 2, 3, 4, 5, 6] (gdec_at D_Mo_inTrays 20 rfl) (st := [.int 0]) rfl rfl ⟨rfl, rfl⟩ (Nat.le_of_ble_eq_true rfl) rfl (by decide) rfl (Nat.le_of_ble_eq_true rfl) ⟨Nat.le_of_ble_eq_true rfl, Nat.le_of_ble_eq_true rfl⟩ ⟨Nat.le_of_ble_eq_true rfl, Nat.le_of_ble_eq_true rfl⟩ (gAft_r rfl rfl (h' := cMo M) (st' := [.int ((dTr (mD M)) (0 * 4 + t)), .int 0]) (pc' := 38) (cs' := 0) (ss' := 0) rfl rfl rfl rfl rfl ?_)
  refine gW_b D_Mo_inTrays 21 4 (pc' := 5) (l' := [(0, .ref 0), (1, .int (nI t)), (2, .int 0), (3, .int (0 + ((dTr (mD M)) (0 * 4 + t)))), (4, .int 1)]) (st' := []) (h' := cMo M) (P := True) rfl trivial ?_
  refine gW_b D_Mo_inTrays 4 2 (pc' := 9) (l' := [(0, .ref 0), (1, .int (nI t)), (2, .int 0), (3, .int (0 + ((dTr (mD M)) (0 * 4 + t)))), (4, .int 1)]) (st' := [.int 6, .int 1]) (h' := cMo M) (P := True) rfl trivial ?_
  refine gW_ic_ge (gdec_at D_Mo_inTrays 6 rfl) (tgt := 46) rfl (fun cq => absurd cq (by decide)) (fun _ => ?_)
  refine gW_b D_Mo_inTrays 7 2 (pc' := 14) (l' := [(0, .ref 0), (1, .int (nI t)), (2, .int 0), (3, .int (0 + ((dTr (mD M)) (0 * 4 + t)))), (4, .int 1)]) (st' := [.int 0, .int (0 + ((dTr (mD M)) (0 * 4 + t)))]) (h' := cMo M) (P := True) rfl trivial ?_
  refine gW_if_eq (gdec_at D_Mo_inTrays 9 rfl) (tgt := 31) rfl (fun _ => ?_) (fun cq => absurd (by decide) cq)
  refine gW_b D_Mo_inTrays 17 3 (pc' := 35) (l' := [(0, .ref 0), (1, .int (nI t)), (2, .int 0), (3, .int (0 + ((dTr (mD M)) (0 * 4 + t)))), (4, .int 1)]) (st' := [.int (nI t), .int 1, .ref 0, .int (0 + ((dTr (mD M)) (0 * 4 + t)))]) (h' := cMo M) (P := True) rfl trivial ?_
  refine gW_callV (n_cubes M 1 t (by omega) (by omega)) lk_Mo_39 [0, 1, 2, 3, 4, 5, 6] (gdec_at D_Mo_inTrays 20 rfl) (st := [.int (0 + ((dTr (mD M)) (0 * 4 + t)))]) rfl rfl ⟨rfl, rfl⟩ (Nat.le_of_ble_eq_true rfl) rfl (by decide) rfl (Nat.le_of_ble_eq_true rfl) ⟨Nat.le_of_ble_eq_true rfl, Nat.le_of_ble_eq_true rfl⟩ ⟨Nat.le_of_ble_eq_true rfl, Nat.le_of_ble_eq_true rfl⟩ (gAft_r rfl rfl (h' := cMo M) (st' := [.int ((dTr (mD M)) (1 * 4 + t)), .int (0 + ((dTr (mD M)) (0 * 4 + t)))]) (pc' := 38) (cs' := 0) (ss' := 0) rfl rfl rfl rfl rfl ?_)
  refine gW_b D_Mo_inTrays 21 4 (pc' := 5) (l' := [(0, .ref 0), (1, .int (nI t)), (2, .int 0), (3, .int ((0 + ((dTr (mD M)) (0 * 4 + t))) + ((dTr (mD M)) (1 * 4 + t)))), (4, .int 2)]) (st' := []) (h' := cMo M) (P := True) rfl trivial ?_
  refine gW_b D_Mo_inTrays 4 2 (pc' := 9) (l' := [(0, .ref 0), (1, .int (nI t)), (2, .int 0), (3, .int ((0 + ((dTr (mD M)) (0 * 4 + t))) + ((dTr (mD M)) (1 * 4 + t)))), (4, .int 2)]) (st' := [.int 6, .int 2]) (h' := cMo M) (P := True) rfl trivial ?_
  refine gW_ic_ge (gdec_at D_Mo_inTrays 6 rfl) (tgt := 46) rfl (fun cq => absurd cq (by decide)) (fun _ => ?_)
  refine gW_b D_Mo_inTrays 7 2 (pc' := 14) (l' := [(0, .ref 0), (1, .int (nI t)), (2, .int 0), (3, .int ((0 + ((dTr (mD M)) (0 * 4 + t))) + ((dTr (mD M)) (1 * 4 + t)))), (4, .int 2)]) (st' := [.int 0, .int ((0 + ((dTr (mD M)) (0 * 4 + t))) + ((dTr (mD M)) (1 * 4 + t)))]) (h' := cMo M) (P := True) rfl trivial ?_
  refine gW_if_eq (gdec_at D_Mo_inTrays 9 rfl) (tgt := 31) rfl (fun _ => ?_) (fun cq => absurd (by decide) cq)
  refine gW_b D_Mo_inTrays 17 3 (pc' := 35) (l' := [(0, .ref 0), (1, .int (nI t)), (2, .int 0), (3, .int ((0 + ((dTr (mD M)) (0 * 4 + t))) + ((dTr (mD M)) (1 * 4 + t)))), (4, .int 2)]) (st' := [.int (nI t), .int 2, .ref 0, .int ((0 + ((dTr (mD M)) (0 * 4 + t))) + ((dTr (mD M)) (1 * 4 + t)))]) (h' := cMo M) (P := True) rfl trivial ?_
  refine gW_callV (n_cubes M 2 t (by omega) (by omega)) lk_Mo_39 [0, 1, 2, 3, 4, 5, 6] (gdec_at D_Mo_inTrays 20 rfl) (st := [.int ((0 + ((dTr (mD M)) (0 * 4 + t))) + ((dTr (mD M)) (1 * 4 + t)))]) rfl rfl ⟨rfl, rfl⟩ (Nat.le_of_ble_eq_true rfl) rfl (by decide) rfl (Nat.le_of_ble_eq_true rfl) ⟨Nat.le_of_ble_eq_true rfl, Nat.le_of_ble_eq_true rfl⟩ ⟨Nat.le_of_ble_eq_true rfl, Nat.le_of_ble_eq_true rfl⟩ (gAft_r rfl rfl (h' := cMo M) (st' := [.int ((dTr (mD M)) (2 * 4 + t)), .int ((0 + ((dTr (mD M)) (0 * 4 + t))) + ((dTr (mD M)) (1 * 4 + t)))]) (pc' := 38) (cs' := 0) (ss' := 0) rfl rfl rfl rfl rfl ?_)
  refine gW_b D_Mo_inTrays 21 4 (pc' := 5) (l' := [(0, .ref 0), (1, .int (nI t)), (2, .int 0), (3, .int (((0 + ((dTr (mD M)) (0 * 4 + t))) + ((dTr (mD M)) (1 * 4 + t))) + ((dTr (mD M)) (2 * 4 + t)))), (4, .int 3)]) (st' := []) (h' := cMo M) (P := True) rfl trivial ?_
  refine gW_b D_Mo_inTrays 4 2 (pc' := 9) (l' := [(0, .ref 0), (1, .int (nI t)), (2, .int 0), (3, .int (((0 + ((dTr (mD M)) (0 * 4 + t))) + ((dTr (mD M)) (1 * 4 + t))) + ((dTr (mD M)) (2 * 4 + t)))), (4, .int 3)]) (st' := [.int 6, .int 3]) (h' := cMo M) (P := True) rfl trivial ?_
  refine gW_ic_ge (gdec_at D_Mo_inTrays 6 rfl) (tgt := 46) rfl (fun cq => absurd cq (by decide)) (fun _ => ?_)
  refine gW_b D_Mo_inTrays 7 2 (pc' := 14) (l' := [(0, .ref 0), (1, .int (nI t)), (2, .int 0), (3, .int (((0 + ((dTr (mD M)) (0 * 4 + t))) + ((dTr (mD M)) (1 * 4 + t))) + ((dTr (mD M)) (2 * 4 + t)))), (4, .int 3)]) (st' := [.int 0, .int (((0 + ((dTr (mD M)) (0 * 4 + t))) + ((dTr (mD M)) (1 * 4 + t))) + ((dTr (mD M)) (2 * 4 + t)))]) (h' := cMo M) (P := True) rfl trivial ?_
  refine gW_if_eq (gdec_at D_Mo_inTrays 9 rfl) (tgt := 31) rfl (fun _ => ?_) (fun cq => absurd (by decide) cq)
  refine gW_b D_Mo_inTrays 17 3 (pc' := 35) (l' := [(0, .ref 0), (1, .int (nI t)), (2, .int 0), (3, .int (((0 + ((dTr (mD M)) (0 * 4 + t))) + ((dTr (mD M)) (1 * 4 + t))) + ((dTr (mD M)) (2 * 4 + t)))), (4, .int 3)]) (st' := [.int (nI t), .int 3, .ref 0, .int (((0 + ((dTr (mD M)) (0 * 4 + t))) + ((dTr (mD M)) (1 * 4 + t))) + ((dTr (mD M)) (2 * 4 + t)))]) (h' := cMo M) (P := True) rfl trivial ?_
  refine gW_callV (n_cubes M 3 t (by omega) (by omega)) lk_Mo_39 [0, 1, 2, 3, 4, 5, 6] (gdec_at D_Mo_inTrays 20 rfl) (st := [.int (((0 + ((dTr (mD M)) (0 * 4 + t))) + ((dTr (mD M)) (1 * 4 + t))) + ((dTr (mD M)) (2 * 4 + t)))]) rfl rfl ⟨rfl, rfl⟩ (Nat.le_of_ble_eq_true rfl) rfl (by decide) rfl (Nat.le_of_ble_eq_true rfl) ⟨Nat.le_of_ble_eq_true rfl, Nat.le_of_ble_eq_true rfl⟩ ⟨Nat.le_of_ble_eq_true rfl, Nat.le_of_ble_eq_true rfl⟩ (gAft_r rfl rfl (h' := cMo M) (st' := [.int ((dTr (mD M)) (3 * 4 + t)), .int (((0 + ((dTr (mD M)) (0 * 4 + t))) + ((dTr (mD M)) (1 * 4 + t))) + ((dTr (mD M)) (2 * 4 + t)))]) (pc' := 38) (cs' := 0) (ss' := 0) rfl rfl rfl rfl rfl ?_)
  refine gW_b D_Mo_inTrays 21 4 (pc' := 5) (l' := [(0, .ref 0), (1, .int (nI t)), (2, .int 0), (3, .int ((((0 + ((dTr (mD M)) (0 * 4 + t))) + ((dTr (mD M)) (1 * 4 + t))) + ((dTr (mD M)) (2 * 4 + t))) + ((dTr (mD M)) (3 * 4 + t)))), (4, .int 4)]) (st' := []) (h' := cMo M) (P := True) rfl trivial ?_
  refine gW_b D_Mo_inTrays 4 2 (pc' := 9) (l' := [(0, .ref 0), (1, .int (nI t)), (2, .int 0), (3, .int ((((0 + ((dTr (mD M)) (0 * 4 + t))) + ((dTr (mD M)) (1 * 4 + t))) + ((dTr (mD M)) (2 * 4 + t))) + ((dTr (mD M)) (3 * 4 + t)))), (4, .int 4)]) (st' := [.int 6, .int 4]) (h' := cMo M) (P := True) rfl trivial ?_
  refine gW_ic_ge (gdec_at D_Mo_inTrays 6 rfl) (tgt := 46) rfl (fun cq => absurd cq (by decide)) (fun _ => ?_)
  refine gW_b D_Mo_inTrays 7 2 (pc' := 14) (l' := [(0, .ref 0), (1, .int (nI t)), (2, .int 0), (3, .int ((((0 + ((dTr (mD M)) (0 * 4 + t))) + ((dTr (mD M)) (1 * 4 + t))) + ((dTr (mD M)) (2 * 4 + t))) + ((dTr (mD M)) (3 * 4 + t)))), (4, .int 4)]) (st' := [.int 0, .int ((((0 + ((dTr (mD M)) (0 * 4 + t))) + ((dTr (mD M)) (1 * 4 + t))) + ((dTr (mD M)) (2 * 4 + t))) + ((dTr (mD M)) (3 * 4 + t)))]) (h' := cMo M) (P := True) rfl trivial ?_
  refine gW_if_eq (gdec_at D_Mo_inTrays 9 rfl) (tgt := 31) rfl (fun _ => ?_) (fun cq => absurd (by decide) cq)
  refine gW_b D_Mo_inTrays 17 3 (pc' := 35) (l' := [(0, .ref 0), (1, .int (nI t)), (2, .int 0), (3, .int ((((0 + ((dTr (mD M)) (0 * 4 + t))) + ((dTr (mD M)) (1 * 4 + t))) + ((dTr (mD M)) (2 * 4 + t))) + ((dTr (mD M)) (3 * 4 + t)))), (4, .int 4)]) (st' := [.int (nI t), .int 4, .ref 0, .int ((((0 + ((dTr (mD M)) (0 * 4 + t))) + ((dTr (mD M)) (1 * 4 + t))) + ((dTr (mD M)) (2 * 4 + t))) + ((dTr (mD M)) (3 * 4 + t)))]) (h' := cMo M) (P := True) rfl trivial ?_
  refine gW_callV (n_cubes M 4 t (by omega) (by omega)) lk_Mo_39 [0, 1, 2, 3, 4, 5, 6] (gdec_at D_Mo_inTrays 20 rfl) (st := [.int ((((0 + ((dTr (mD M)) (0 * 4 + t))) + ((dTr (mD M)) (1 * 4 + t))) + ((dTr (mD M)) (2 * 4 + t))) + ((dTr (mD M)) (3 * 4 + t)))]) rfl rfl ⟨rfl, rfl⟩ (Nat.le_of_ble_eq_true rfl) rfl (by decide) rfl (Nat.le_of_ble_eq_true rfl) ⟨Nat.le_of_ble_eq_true rfl, Nat.le_of_ble_eq_true rfl⟩ ⟨Nat.le_of_ble_eq_true rfl, Nat.le_of_ble_eq_true rfl⟩ (gAft_r rfl rfl (h' := cMo M) (st' := [.int ((dTr (mD M)) (4 * 4 + t)), .int ((((0 + ((dTr (mD M)) (0 * 4 + t))) + ((dTr (mD M)) (1 * 4 + t))) + ((dTr (mD M)) (2 * 4 + t))) + ((dTr (mD M)) (3 * 4 + t)))]) (pc' := 38) (cs' := 0) (ss' := 0) rfl rfl rfl rfl rfl ?_)
  refine gW_b D_Mo_inTrays 21 4 (pc' := 5) (l' := [(0, .ref 0), (1, .int (nI t)), (2, .int 0), (3, .int (((((0 + ((dTr (mD M)) (0 * 4 + t))) + ((dTr (mD M)) (1 * 4 + t))) + ((dTr (mD M)) (2 * 4 + t))) + ((dTr (mD M)) (3 * 4 + t))) + ((dTr (mD M)) (4 * 4 + t)))), (4, .int 5)]) (st' := []) (h' := cMo M) (P := True) rfl trivial ?_
  refine gW_b D_Mo_inTrays 4 2 (pc' := 9) (l' := [(0, .ref 0), (1, .int (nI t)), (2, .int 0), (3, .int (((((0 + ((dTr (mD M)) (0 * 4 + t))) + ((dTr (mD M)) (1 * 4 + t))) + ((dTr (mD M)) (2 * 4 + t))) + ((dTr (mD M)) (3 * 4 + t))) + ((dTr (mD M)) (4 * 4 + t)))), (4, .int 5)]) (st' := [.int 6, .int 5]) (h' := cMo M) (P := True) rfl trivial ?_
  refine gW_ic_ge (gdec_at D_Mo_inTrays 6 rfl) (tgt := 46) rfl (fun cq => absurd cq (by decide)) (fun _ => ?_)
  refine gW_b D_Mo_inTrays 7 2 (pc' := 14) (l' := [(0, .ref 0), (1, .int (nI t)), (2, .int 0), (3, .int (((((0 + ((dTr (mD M)) (0 * 4 + t))) + ((dTr (mD M)) (1 * 4 + t))) + ((dTr (mD M)) (2 * 4 + t))) + ((dTr (mD M)) (3 * 4 + t))) + ((dTr (mD M)) (4 * 4 + t)))), (4, .int 5)]) (st' := [.int 0, .int (((((0 + ((dTr (mD M)) (0 * 4 + t))) + ((dTr (mD M)) (1 * 4 + t))) + ((dTr (mD M)) (2 * 4 + t))) + ((dTr (mD M)) (3 * 4 + t))) + ((dTr (mD M)) (4 * 4 + t)))]) (h' := cMo M) (P := True) rfl trivial ?_
  refine gW_if_eq (gdec_at D_Mo_inTrays 9 rfl) (tgt := 31) rfl (fun _ => ?_) (fun cq => absurd (by decide) cq)
  refine gW_b D_Mo_inTrays 17 3 (pc' := 35) (l' := [(0, .ref 0), (1, .int (nI t)), (2, .int 0), (3, .int (((((0 + ((dTr (mD M)) (0 * 4 + t))) + ((dTr (mD M)) (1 * 4 + t))) + ((dTr (mD M)) (2 * 4 + t))) + ((dTr (mD M)) (3 * 4 + t))) + ((dTr (mD M)) (4 * 4 + t)))), (4, .int 5)]) (st' := [.int (nI t), .int 5, .ref 0, .int (((((0 + ((dTr (mD M)) (0 * 4 + t))) + ((dTr (mD M)) (1 * 4 + t))) + ((dTr (mD M)) (2 * 4 + t))) + ((dTr (mD M)) (3 * 4 + t))) + ((dTr (mD M)) (4 * 4 + t)))]) (h' := cMo M) (P := True) rfl trivial ?_
  refine gW_callV (n_cubes M 5 t (by omega) (by omega)) lk_Mo_39 [0, 1, 2, 3, 4, 5, 6] (gdec_at D_Mo_inTrays 20 rfl) (st := [.int (((((0 + ((dTr (mD M)) (0 * 4 + t))) + ((dTr (mD M)) (1 * 4 + t))) + ((dTr (mD M)) (2 * 4 + t))) + ((dTr (mD M)) (3 * 4 + t))) + ((dTr (mD M)) (4 * 4 + t)))]) rfl rfl ⟨rfl, rfl⟩ (Nat.le_of_ble_eq_true rfl) rfl (by decide) rfl (Nat.le_of_ble_eq_true rfl) ⟨Nat.le_of_ble_eq_true rfl, Nat.le_of_ble_eq_true rfl⟩ ⟨Nat.le_of_ble_eq_true rfl, Nat.le_of_ble_eq_true rfl⟩ (gAft_r rfl rfl (h' := cMo M) (st' := [.int ((dTr (mD M)) (5 * 4 + t)), .int (((((0 + ((dTr (mD M)) (0 * 4 + t))) + ((dTr (mD M)) (1 * 4 + t))) + ((dTr (mD M)) (2 * 4 + t))) + ((dTr (mD M)) (3 * 4 + t))) + ((dTr (mD M)) (4 * 4 + t)))]) (pc' := 38) (cs' := 0) (ss' := 0) rfl rfl rfl rfl rfl ?_)
  refine gW_b D_Mo_inTrays 21 4 (pc' := 5) (l' := [(0, .ref 0), (1, .int (nI t)), (2, .int 0), (3, .int ((((((0 + ((dTr (mD M)) (0 * 4 + t))) + ((dTr (mD M)) (1 * 4 + t))) + ((dTr (mD M)) (2 * 4 + t))) + ((dTr (mD M)) (3 * 4 + t))) + ((dTr (mD M)) (4 * 4 + t))) + ((dTr (mD M)) (5 * 4 + t)))), (4, .int 6)]) (st' := []) (h' := cMo M) (P := True) rfl trivial ?_
  refine gW_b D_Mo_inTrays 4 2 (pc' := 9) (l' := [(0, .ref 0), (1, .int (nI t)), (2, .int 0), (3, .int ((((((0 + ((dTr (mD M)) (0 * 4 + t))) + ((dTr (mD M)) (1 * 4 + t))) + ((dTr (mD M)) (2 * 4 + t))) + ((dTr (mD M)) (3 * 4 + t))) + ((dTr (mD M)) (4 * 4 + t))) + ((dTr (mD M)) (5 * 4 + t)))), (4, .int 6)]) (st' := [.int 6, .int 6]) (h' := cMo M) (P := True) rfl trivial ?_
  refine gW_ic_ge (gdec_at D_Mo_inTrays 6 rfl) (tgt := 46) rfl (fun _ => ?_) (fun cq => absurd (by decide) cq)
  refine gW_b D_Mo_inTrays 25 1 (pc' := 47) (l' := [(0, .ref 0), (1, .int (nI t)), (2, .int 0), (3, .int ((((((0 + ((dTr (mD M)) (0 * 4 + t))) + ((dTr (mD M)) (1 * 4 + t))) + ((dTr (mD M)) (2 * 4 + t))) + ((dTr (mD M)) (3 * 4 + t))) + ((dTr (mD M)) (4 * 4 + t))) + ((dTr (mD M)) (5 * 4 + t)))), (4, .int 6)]) (st' := [.int ((((((0 + ((dTr (mD M)) (0 * 4 + t))) + ((dTr (mD M)) (1 * 4 + t))) + ((dTr (mD M)) (2 * 4 + t))) + ((dTr (mD M)) (3 * 4 + t))) + ((dTr (mD M)) (4 * 4 + t))) + ((dTr (mD M)) (5 * 4 + t)))]) (h' := cMo M) (P := True) rfl trivial ?_
  exact gW_iret (gdec_at D_Mo_inTrays 26 rfl) rfl rfl (Nat.le_of_ble_eq_true rfl) ⟨rfl, rfl⟩ (Nat.le_of_ble_eq_true rfl) (Nat.le_of_ble_eq_true rfl)
theorem k_inTrays (M : gMo) (t : Nat) (ht : t < 4) {sc : Nat × (Nat → Int32)} {n0 : Nat} {E : gO → gH → Prop} (kk : gW K_Mo_inTrays sc { frames := 2, locals := 45, cells := 0, slots := 0 } n0 E 0 0 46 [(0, .ref 0), (1, .int (nI t)), (2, .int 1), (3, .int (rpI (dTr (mD M)) t 6)), (4, .int (nI 6))] [] (cMo M)) : ∀ (n i : Nat), i + n = 6 → gW K_Mo_inTrays sc { frames := 2, locals := 45, cells := 0, slots := 0 } n0 E 0 0 5 [(0, .ref 0), (1, .int (nI t)), (2, .int 1), (3, .int (rpI (dTr (mD M)) t i)), (4, .int (nI i))] [] (cMo M) := by
  intro n
  induction n with
  | zero =>
    intro i hi
    obtain rfl : 6 = i := by omega
    refine gW_b D_Mo_inTrays 4 2 (pc' := 9) (l' := [(0, .ref 0), (1, .int (nI t)), (2, .int 1), (3, .int (rpI (dTr (mD M)) t 6)), (4, .int (nI 6))]) (st' := [.int 6, .int (nI 6)]) (h' := cMo M) (P := True) rfl trivial ?_
    refine gW_ic_ge (gdec_at D_Mo_inTrays 6 rfl) (tgt := 46) rfl (fun _ => ?_) (fun cq => absurd ((gle (gk 6) (rfl : nI 6 = nI 6) (by omega) (by omega)).mpr (by omega)) cq)
    exact kk
  | succ n ih =>
    intro i hi
    refine gW_b D_Mo_inTrays 4 2 (pc' := 9) (l' := [(0, .ref 0), (1, .int (nI t)), (2, .int 1), (3, .int (rpI (dTr (mD M)) t i)), (4, .int (nI i))]) (st' := [.int 6, .int (nI i)]) (h' := cMo M) (P := True) rfl trivial ?_
    refine gW_ic_ge (gdec_at D_Mo_inTrays 6 rfl) (tgt := 46) rfl (fun cq => absurd cq (mt (gle (gk 6) (rfl : nI i = nI i) (by omega) (by omega)).mp (by omega))) (fun _ => ?_)
    have hb2 := tn_le (dTr (mD M)) i
    refine gW_b D_Mo_inTrays 7 2 (pc' := 14) (l' := [(0, .ref 0), (1, .int (nI t)), (2, .int 1), (3, .int (rpI (dTr (mD M)) t i)), (4, .int (nI i))]) (st' := [.int 1, .int (rpI (dTr (mD M)) t i)]) (h' := cMo M) (P := True) rfl trivial ?_
    refine gW_if_eq (gdec_at D_Mo_inTrays 9 rfl) (tgt := 31) rfl (fun cq => absurd cq (by decide)) (fun _ => ?_)
    refine gW_b D_Mo_inTrays 10 2 (pc' := 20) (l' := [(0, .ref 0), (1, .int (nI t)), (2, .int 1), (3, .int (rpI (dTr (mD M)) t i)), (4, .int (nI i))]) (st' := [.int (nI i), .ref 0, .int (rpI (dTr (mD M)) t i)]) (h' := cMo M) (P := True) rfl trivial ?_
    refine gW_callV (n_tonesIn M i (by omega)) lk_Mo_95 [0, 1, 2, 3, 4, 5, 6] (gdec_at D_Mo_inTrays 12 rfl) (st := [.int (rpI (dTr (mD M)) t i)]) rfl rfl ⟨rfl, rfl⟩ (Nat.le_of_ble_eq_true rfl) rfl (by decide) rfl (Nat.le_of_ble_eq_true rfl) ⟨Nat.le_of_ble_eq_true rfl, Nat.le_of_ble_eq_true rfl⟩ ⟨Nat.le_of_ble_eq_true rfl, Nat.le_of_ble_eq_true rfl⟩ (gAft_r rfl rfl (h' := cMo M) (st' := [.int (nI (tn (dTr (mD M)) i)), .int (rpI (dTr (mD M)) t i)]) (pc' := 23) (cs' := 0) (ss' := 0) rfl rfl rfl rfl rfl ?_)
    refine gW_b D_Mo_inTrays 13 1 (pc' := 24) (l' := [(0, .ref 0), (1, .int (nI t)), (2, .int 1), (3, .int (rpI (dTr (mD M)) t i)), (4, .int (nI i))]) (st' := [.int 1, .int (nI (tn (dTr (mD M)) i)), .int (rpI (dTr (mD M)) t i)]) (h' := cMo M) (P := True) rfl trivial ?_
    refine gW_ic_le (gdec_at D_Mo_inTrays 14 rfl) (tgt := 31) rfl (fun c => ?_) (fun c => ?_)
    · have c := (gle (rfl : nI (tn (dTr (mD M)) i) = nI (tn (dTr (mD M)) i)) (gk 1) (by omega) (by omega)).mp c
      refine gW_b D_Mo_inTrays 17 3 (pc' := 35) (l' := [(0, .ref 0), (1, .int (nI t)), (2, .int 1), (3, .int (rpI (dTr (mD M)) t i)), (4, .int (nI i))]) (st' := [.int (nI t), .int (nI i), .ref 0, .int (rpI (dTr (mD M)) t i)]) (h' := cMo M) (P := True) rfl trivial ?_
      refine gW_callV (n_cubes M i t (by omega) (by omega)) lk_Mo_39 [0, 1, 2, 3, 4, 5, 6] (gdec_at D_Mo_inTrays 20 rfl) (st := [.int (rpI (dTr (mD M)) t i)]) rfl rfl ⟨rfl, rfl⟩ (Nat.le_of_ble_eq_true rfl) rfl (by decide) rfl (Nat.le_of_ble_eq_true rfl) ⟨Nat.le_of_ble_eq_true rfl, Nat.le_of_ble_eq_true rfl⟩ ⟨Nat.le_of_ble_eq_true rfl, Nat.le_of_ble_eq_true rfl⟩ (gAft_r rfl rfl (h' := cMo M) (st' := [.int ((dTr (mD M)) (i * 4 + t)), .int (rpI (dTr (mD M)) t i)]) (pc' := 38) (cs' := 0) (ss' := 0) rfl rfl rfl rfl rfl ?_)
      refine gW_b D_Mo_inTrays 21 4 (pc' := 5) (l' := [(0, .ref 0), (1, .int (nI t)), (2, .int 1), (3, .int ((rpI (dTr (mD M)) t i) + ((dTr (mD M)) (i * 4 + t)))), (4, .int ((nI i) + 1))]) (st' := []) (h' := cMo M) (P := True) rfl trivial ?_
      rw [show ((nI i) + 1 : Int32) = nI (i + 1) from (gadd (rfl : nI i = nI i) (gk 1))]
      rw [show rpI (dTr (mD M)) t i + (dTr (mD M)) (i * 4 + t) = rpI (dTr (mD M)) t (i + 1) from (if_pos c).symm]
      exact ih (i + 1) (by omega)
    · have c := mt (gle (rfl : nI (tn (dTr (mD M)) i) = nI (tn (dTr (mD M)) i)) (gk 1) (by omega) (by omega)).mpr c
      refine gW_b D_Mo_inTrays 15 2 (pc' := 38) (l' := [(0, .ref 0), (1, .int (nI t)), (2, .int 1), (3, .int (rpI (dTr (mD M)) t i)), (4, .int (nI i))]) (st' := [.int 0, .int (rpI (dTr (mD M)) t i)]) (h' := cMo M) (P := True) rfl trivial ?_
      refine gW_b D_Mo_inTrays 21 4 (pc' := 5) (l' := [(0, .ref 0), (1, .int (nI t)), (2, .int 1), (3, .int ((rpI (dTr (mD M)) t i) + 0)), (4, .int ((nI i) + 1))]) (st' := []) (h' := cMo M) (P := True) rfl trivial ?_
      rw [show ((nI i) + 1 : Int32) = nI (i + 1) from (gadd (rfl : nI i = nI i) (gk 1))]
      rw [show rpI (dTr (mD M)) t i + 0 = rpI (dTr (mD M)) t (i + 1) from by rw [Int32.add_zero]; exact (if_neg c).symm]
      exact ih (i + 1) (by omega)
theorem n_inTrays_p (M : gMo) (t : Nat) (ht : t < 4) : gM K_Mo_inTrays { frames := 2, locals := 45, cells := 0, slots := 0 } [.ref 0, .int (nI t), .int 1] (cMo M) (gD (.inl (some (.int (rpI (dTr (mD M)) t 6)))) (cMo M)) := by
  refine gM_of rfl rfl (Nat.le_of_ble_eq_true rfl) (fun sc => ?_)
  refine gW_b D_Mo_inTrays 0 4 (pc' := 5) (l' := [(0, .ref 0), (1, .int (nI t)), (2, .int 1), (3, .int 0), (4, .int 0)]) (st' := []) (h' := cMo M) (P := True) rfl trivial ?_
  refine k_inTrays M t ht ?_ 6 0 rfl
  refine gW_b D_Mo_inTrays 25 1 (pc' := 47) (l' := [(0, .ref 0), (1, .int (nI t)), (2, .int 1), (3, .int (rpI (dTr (mD M)) t 6)), (4, .int (nI 6))]) (st' := [.int (rpI (dTr (mD M)) t 6)]) (h' := cMo M) (P := True) rfl trivial ?_
  exact gW_iret (gdec_at D_Mo_inTrays 26 rfl) rfl rfl (Nat.le_of_ble_eq_true rfl) ⟨rfl, rfl⟩ (Nat.le_of_ble_eq_true rfl) (Nat.le_of_ble_eq_true rfl)
