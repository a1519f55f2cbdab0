/-! GoldSheets: what would be, and what days bring. Printed by wip/whole/meths8.py -/
def ptS (S : gGS) (d : Nat) (o : Int32) : gGS := setTrl S (pdI d (chgD (sD S) 2 o))
theorem gsOK_tr {S : gGS} (h : gsOK S) (T : gDom) : gsOK (sD S, T, sR S, sN S, sDs S, sT S, sDb S) := h
theorem gsOK_dm {S : gGS} (h : gsOK S) : dmOK (sD S) := ⟨h.1, h.2.1, h.2.2.1⟩
def bo2 (D : gDom) (d : Nat) (a b : Int32) : Int32 := if dDn (pdI d (chgD D 2 1)) = a then bI (decide (dLd (pdI d (chgD D 2 1)) < b)) else bI (decide (a < dDn (pdI d (chgD D 2 1))))
def boI (S : gGS) (d : Nat) : Int32 := bo2 (sD S) d (dDn (pdI d (chgD (sD S) 2 0))) (dLd (pdI d (chgD (sD S) 2 0)))
theorem ptS_ptS (S : gGS) (d e : Nat) (o p : Int32) : ptS (ptS S d o) e p = ptS S e p := rfl
theorem ptS_ok {S : gGS} (h : gsOK S) (d : Nat) (o : Int32) : gsOK (ptS S d o) := h
set_option maxRecDepth 20000 in
theorem l_pass (S : gGS) (hT : dmOK (sD S)) (d : Nat) (b : Int32) (h2 : d ≤ 60) {sc : Nat × (Nat → Int32)} {n0 : Nat} {E : gO → gH → Prop} (kk : gW K_Gs_pass sc { frames := 5, locals := 125, cells := 0, slots := 0 } n0 E 0 0 74 [(0, .ref 0), (1, .int (nI d)), (2, .int b), (3, .int (nI d))] [] (cGs (pdI d (sD S), sTr (saveS S), sR (saveS S), sN (saveS S), sDs (saveS S), sT (saveS S), sDb (saveS S)))) : ∀ (n i : Nat), i + n = d → gW K_Gs_pass sc { frames := 5, locals := 125, cells := 0, slots := 0 } n0 E 0 0 56 [(0, .ref 0), (1, .int (nI d)), (2, .int b), (3, .int (nI i))] [] (cGs (pdI i (sD S), sTr (saveS S), sR (saveS S), sN (saveS S), sDs (saveS S), sT (saveS S), sDb (saveS S))) := by
  intro n
  induction n with
  | zero =>
    intro i hi
    obtain rfl : d = i := by omega
    refine gW_b D_Gs_pass 28 2 (pc' := 58) (l' := [(0, .ref 0), (1, .int (nI d)), (2, .int b), (3, .int (nI d))]) (st' := [.int (nI d), .int (nI d)]) (h' := cGs (pdI d (sD S), sTr (saveS S), sR (saveS S), sN (saveS S), sDs (saveS S), sT (saveS S), sDb (saveS S))) (P := True) rfl trivial ?_
    refine gW_ic_ge (gdec_at D_Gs_pass 30 rfl) (tgt := 74) rfl (fun _ => ?_) (fun cq => absurd ((gle (rfl : nI d = nI d) (rfl : nI d = nI d) (by omega) (by omega)).mpr (by omega)) cq)
    exact kk
  | succ n ih =>
    intro i hi
    refine gW_b D_Gs_pass 28 2 (pc' := 58) (l' := [(0, .ref 0), (1, .int (nI d)), (2, .int b), (3, .int (nI i))]) (st' := [.int (nI d), .int (nI i)]) (h' := cGs (pdI i (sD S), sTr (saveS S), sR (saveS S), sN (saveS S), sDs (saveS S), sT (saveS S), sDb (saveS S))) (P := True) rfl trivial ?_
    refine gW_ic_ge (gdec_at D_Gs_pass 30 rfl) (tgt := 74) rfl (fun cq => absurd cq (mt (gle (rfl : nI d = nI d) (rfl : nI i = nI i) (by omega) (by omega)).mp (by omega))) (fun _ => ?_)
    obtain ⟨q1, q2, q3⟩ := pdI_dm hT i
    refine gW_b D_Gs_pass 31 2 (pc' := 65) (l' := [(0, .ref 0), (1, .int (nI d)), (2, .int b), (3, .int (nI i))]) (st' := [.ref 1]) (h' := cGs (pdI i (sD S), sTr (saveS S), sR (saveS S), sN (saveS S), sDs (saveS S), sT (saveS S), sDb (saveS S))) (P := True) rfl trivial ?_
    refine gW_callV (m_passDay (pdI i (sD S)) (by assumption) (by assumption) (by assumption)) lk_Gs_130 (gps 1 10 0 0) (gdec_at D_Gs_pass 33 rfl) (st := []) rfl rfl (gCut_seg (Nat.le_of_ble_eq_true rfl) (Nat.le_of_ble_eq_true rfl) rfl (by decide +kernel)) (Nat.le_of_ble_eq_true rfl) rfl (by decide) rfl (Nat.le_of_ble_eq_true rfl) ⟨Nat.le_of_ble_eq_true rfl, Nat.le_of_ble_eq_true rfl⟩ ⟨Nat.le_of_ble_eq_true rfl, Nat.le_of_ble_eq_true rfl⟩ (gAft_s (Nat.le_of_ble_eq_true rfl) (Nat.le_of_ble_eq_true rfl) rfl rfl rfl rfl (h' := cGs (pdD (pdI i (sD S)), sTr (saveS S), sR (saveS S), sN (saveS S), sDs (saveS S), sT (saveS S), sDb (saveS S))) (st' := []) (pc' := 68) (cs' := 0) (ss' := 0) rfl rfl rfl rfl rfl ?_)
    refine gW_b D_Gs_pass 34 2 (pc' := 56) (l' := [(0, .ref 0), (1, .int (nI d)), (2, .int b), (3, .int ((nI i) + 1))]) (st' := []) (h' := cGs (pdD (pdI i (sD S)), sTr (saveS S), sR (saveS S), sN (saveS S), sDs (saveS S), sT (saveS S), sDb (saveS S))) (P := True) rfl trivial ?_
    rw [show ((nI i) + 1 : Int32) = nI (i + 1) from (gadd (rfl : nI i = nI i) (gk 1))]
    exact ih (i + 1) (by omega)
set_option maxRecDepth 20000 in
theorem m_pass (S : gGS) (hok : gsOK S) (d : Nat) (h1 : 1 ≤ d) (h2 : d ≤ 60) (h : ¬ 9999 < dDy (sD S) + nI d) : gM K_Gs_pass { frames := 5, locals := 125, cells := 0, slots := 0 } [.ref 0, .int (nI d)] (cGs S) (gD (.inl (some (.int (sum4 (dLa (pdI d (sD S))) - sum4 (dLa (sD S)))))) (cGs (setD (saveS S) (pdI d (sD S))))) := by
  refine gM_of rfl rfl (Nat.le_of_ble_eq_true rfl) (fun sc => ?_)
  obtain ⟨hD, hs3, hs9, hr, hn, hT⟩ := id hok
  have hsz := hD.1
  refine gW_b D_Gs_pass 0 3 (pc' := 4) (l' := [(0, .ref 0), (1, .int (nI d))]) (st' := [.int 60, .int 1, .int (nI d)]) (h' := cGs S) (P := True) rfl trivial ?_
  refine gW_callS (m_requireRange (nI d) 1 60 (mt (glt (rfl : nI d = nI d) (gk 1) (by omega) (by omega)).mp (by omega)) (mt (glt (gk 60) (rfl : nI d = nI d) (by omega) (by omega)).mp (by omega))) lk_Gs_41 (gps 0 0 0 0) (gdec_at D_Gs_pass 3 rfl) (st := []) rfl rfl (gCut_seg (Nat.le_of_ble_eq_true rfl) (Nat.le_of_ble_eq_true rfl) rfl (by decide +kernel)) (Nat.le_of_ble_eq_true rfl) (Nat.le_of_ble_eq_true rfl) ⟨Nat.le_of_ble_eq_true rfl, Nat.le_of_ble_eq_true rfl⟩ ⟨Nat.le_of_ble_eq_true rfl, Nat.le_of_ble_eq_true rfl⟩ (gAft_s (Nat.le_of_ble_eq_true rfl) (Nat.le_of_ble_eq_true rfl) rfl rfl rfl rfl (h' := cGs S) (st' := []) (pc' := 7) (cs' := 0) (ss' := 0) rfl rfl rfl rfl rfl ?_)
  refine gW_b D_Gs_pass 4 6 (pc' := 19) (l' := [(0, .ref 0), (1, .int (nI d))]) (st' := [.int 9999, .int ((dDy (sD S)) + (nI d))]) (h' := cGs S) (P := True) rfl trivial ?_
  refine gW_ic_le (gdec_at D_Gs_pass 10 rfl) (tgt := 32) rfl (fun _ => ?_) (fun cq => absurd (Int32.not_lt.mp h) cq)
  refine gW_b D_Gs_pass 16 4 (pc' := 40) (l' := [(0, .ref 0), (1, .int (nI d))]) (st' := [.ref 1, .ref 21]) (h' := cGs S) (P := True) rfl trivial ?_
  refine gW_callV (m_save (sR S) (sN S) (sDs S) (sD S) (by exact hr) (by exact hn)) lk_Gs_59 (gps 21 62 1 10) (gdec_at D_Gs_pass 20 rfl) (st := []) rfl rfl (cutSv S (by exact hr)) (Nat.le_of_ble_eq_true rfl) rfl (by decide) rfl (Nat.le_of_ble_eq_true rfl) ⟨Nat.le_of_ble_eq_true rfl, Nat.le_of_ble_eq_true rfl⟩ ⟨Nat.le_of_ble_eq_true rfl, Nat.le_of_ble_eq_true rfl⟩ (gAft_s (Nat.le_of_ble_eq_true rfl) (Nat.le_of_ble_eq_true rfl) rfl rfl (wfSv _ _ _ _ (by exact svR_lt hr)) rfl (h' := cGs (saveS S)) (st' := []) (pc' := 43) (cs' := 0) (ss' := 0) (mrgSv S _ _ _ _ (by exact svR_lt hr)) rfl rfl rfl rfl ?_)
  refine gW_b D_Gs_pass 21 3 (pc' := 50) (l' := [(0, .ref 0), (1, .int (nI d))]) (st' := [.ref 9]) (h' := cGs (saveS S)) (P := True) rfl trivial ?_
  refine gW_callS (m_sumOf (dLa (sD (saveS S)))) lk_Gs_126 (gps 9 1 0 0) (gdec_at D_Gs_pass 24 rfl) (st := []) rfl rfl (gCut_seg (Nat.le_of_ble_eq_true rfl) (Nat.le_of_ble_eq_true rfl) rfl (by decide +kernel)) (Nat.le_of_ble_eq_true rfl) (Nat.le_of_ble_eq_true rfl) ⟨Nat.le_of_ble_eq_true rfl, Nat.le_of_ble_eq_true rfl⟩ ⟨Nat.le_of_ble_eq_true rfl, Nat.le_of_ble_eq_true rfl⟩ (gAft_s (Nat.le_of_ble_eq_true rfl) (Nat.le_of_ble_eq_true rfl) rfl rfl rfl rfl (h' := cGs (saveS S)) (st' := [.int (sum4 (dLa (sD (saveS S))))]) (pc' := 53) (cs' := 0) (ss' := 0) rfl rfl rfl rfl rfl ?_)
  refine gW_b D_Gs_pass 25 3 (pc' := 56) (l' := [(0, .ref 0), (1, .int (nI d)), (2, .int (sum4 (dLa (sD (saveS S))))), (3, .int 0)]) (st' := []) (h' := cGs (saveS S)) (P := True) rfl trivial ?_
  refine l_pass S (gsOK_dm hok) d _ h2 ?_ d 0 (Nat.zero_add _)
  refine gW_b D_Gs_pass 36 3 (pc' := 81) (l' := [(0, .ref 0), (1, .int (nI d)), (2, .int (sum4 (dLa (sD S)))), (3, .int (nI d))]) (st' := [.ref 9]) (h' := cGs (pdI d (sD S), sTr (saveS S), sR (saveS S), sN (saveS S), sDs (saveS S), sT (saveS S), sDb (saveS S))) (P := True) rfl trivial ?_
  refine gW_callS (m_sumOf (dLa (pdI d (sD S)))) lk_Gs_126 (gps 9 1 0 0) (gdec_at D_Gs_pass 39 rfl) (st := []) rfl rfl (gCut_seg (Nat.le_of_ble_eq_true rfl) (Nat.le_of_ble_eq_true rfl) rfl (by decide +kernel)) (Nat.le_of_ble_eq_true rfl) (Nat.le_of_ble_eq_true rfl) ⟨Nat.le_of_ble_eq_true rfl, Nat.le_of_ble_eq_true rfl⟩ ⟨Nat.le_of_ble_eq_true rfl, Nat.le_of_ble_eq_true rfl⟩ (gAft_s (Nat.le_of_ble_eq_true rfl) (Nat.le_of_ble_eq_true rfl) rfl rfl rfl rfl (h' := cGs (pdI d (sD S), sTr (saveS S), sR (saveS S), sN (saveS S), sDs (saveS S), sT (saveS S), sDb (saveS S))) (st' := [.int (sum4 (dLa (pdI d (sD S))))]) (pc' := 84) (cs' := 0) (ss' := 0) rfl rfl rfl rfl rfl ?_)
  refine gW_b D_Gs_pass 40 2 (pc' := 86) (l' := [(0, .ref 0), (1, .int (nI d)), (2, .int (sum4 (dLa (sD S)))), (3, .int (nI d))]) (st' := [.int ((sum4 (dLa (pdI d (sD S)))) - (sum4 (dLa (sD S))))]) (h' := cGs (pdI d (sD S), sTr (saveS S), sR (saveS S), sN (saveS S), sDs (saveS S), sT (saveS S), sDb (saveS S))) (P := True) rfl trivial ?_
  exact gW_iret (gdec_at D_Gs_pass 42 rfl) rfl rfl (Nat.le_of_ble_eq_true rfl) ⟨rfl, rfl⟩ (Nat.le_of_ble_eq_true rfl) (Nat.le_of_ble_eq_true rfl)
