/-! GoldSheets. Printed by wip/whole/meths6.py -/
/-- dome, trial, turns of the saved row, how many are saved, the saved domes by their cells, text, doneBehind -/
abbrev gGS : Type := gDom × gDom × Nat × Nat × (Nat → gDom) × gTxt × (Nat → Int32)
abbrev sD (S : gGS) : gDom := S.1
abbrev sTr (S : gGS) : gDom := S.2.1
abbrev sR (S : gGS) : Nat := S.2.2.1
abbrev sN (S : gGS) : Nat := S.2.2.2.1
abbrev sDs (S : gGS) : Nat → gDom := S.2.2.2.2.1
abbrev sT (S : gGS) : gTxt := S.2.2.2.2.2.1
abbrev sDb (S : gGS) : Nat → Int32 := S.2.2.2.2.2.2
abbrev cGs (S : gGS) : gH := cO 5 [.ref 1, .ref 11, .ref 21, .ref 83, .ref 88] :: (cDo 1 (sD S) ++ (cDo 11 (sTr S) ++ cHs 21 (sR S) (sN S) (sDs S) (cTx 83 (sT S) ++ [cI 10 (sDb S)])))
def saveS (S : gGS) : gGS := (sD S, sTr S, svR (sR S) (sN S), svN (sN S), updD (sDs S) (svK (sR S) (sN S)) (sD S), sT S, sDb S)
def setD (S : gGS) (D : gDom) : gGS := (D, S.2)
def setTrl (S : gGS) (D : gDom) : gGS := (sD S, D, S.2.2)
def setT (S : gGS) (T : gTxt) : gGS := (sD S, sTr S, sR S, sN S, sDs S, T, sDb S)
def setDb (S : gGS) (f : Nat → Int32) : gGS := (sD S, sTr S, sR S, sN S, sDs S, sT S, f)
/-- what the walks ask of the object -/
def gsOK (S : gGS) : Prop := dOK (sD S) ∧ dSt (sD S) 3 = nI (tnx (dSt (sD S) 3)) ∧ tnx (dSt (sD S) 3) ≤ 9 ∧ sR S < 6 ∧ sN S ≤ 6 ∧ txOK (sT S)
theorem nd89 : va_nd (gps 0 89 0 0) = true := by decide +kernel
theorem ndSv : va_nd (gps 21 62 1 10) = true := by decide +kernel
set_option maxRecDepth 20000 in
theorem cutGs (S : gGS) (hr : sR S < 6) : gCut (cGs S) (cGs S) (gps 0 89 0 0) := by
  obtain ⟨D, Tr, r, n, Ds, T, db⟩ := S
  have hr6 : r < 6 := hr
  refine gCut_seg (Nat.le_of_ble_eq_true rfl) (Nat.le_of_ble_eq_true rfl) ?_ nd89
  rcases (show r = 0 ∨ r = 1 ∨ r = 2 ∨ r = 3 ∨ r = 4 ∨ r = 5 by omega) with rfl | rfl | rfl | rfl | rfl | rfl <;> rfl
set_option maxRecDepth 20000 in
theorem mrgGs (S S' : gGS) (hr : sR S' < 6) : gseg2 (cGs S) 0 89 0 0 ((cGs S').map (gre (gren (gps 0 89 0 0) (cGs S).length))) = cGs S' := by
  obtain ⟨D, Tr, r, n, Ds, T, db⟩ := S'
  have hr6 : r < 6 := hr
  rcases (show r = 0 ∨ r = 1 ∨ r = 2 ∨ r = 3 ∨ r = 4 ∨ r = 5 by omega) with rfl | rfl | rfl | rfl | rfl | rfl <;> rfl
set_option maxRecDepth 20000 in
theorem wfGs (S : gGS) (hr : sR S < 6) : (cGs S).all (gwf 89) = true := by
  obtain ⟨D, Tr, r, n, Ds, T, db⟩ := S
  have hr6 : r < 6 := hr
  rcases (show r = 0 ∨ r = 1 ∨ r = 2 ∨ r = 3 ∨ r = 4 ∨ r = 5 by omega) with rfl | rfl | rfl | rfl | rfl | rfl <;> rfl
set_option maxRecDepth 20000 in
theorem cutSv (S : gGS) (hr : sR S < 6) : gCut (cGs S) (cHs 0 (sR S) (sN S) (sDs S) (cDo 62 (sD S))) (gps 21 62 1 10) := by
  obtain ⟨D, Tr, r, n, Ds, T, db⟩ := S
  have hr6 : r < 6 := hr
  refine gCut_seg (Nat.le_of_ble_eq_true rfl) (Nat.le_of_ble_eq_true rfl) ?_ ndSv
  rcases (show r = 0 ∨ r = 1 ∨ r = 2 ∨ r = 3 ∨ r = 4 ∨ r = 5 by omega) with rfl | rfl | rfl | rfl | rfl | rfl <;> rfl
set_option maxRecDepth 20000 in
theorem mrgSv (S : gGS) (r n : Nat) (Ds : Nat → gDom) (D : gDom) (hr : r < 6) : gseg2 (cGs S) 21 62 1 10 ((cHs 0 r n Ds (cDo 62 D)).map (gre (gren (gps 21 62 1 10) (cGs S).length))) = cGs (D, sTr S, r, n, Ds, sT S, sDb S) := by
  rcases (show r = 0 ∨ r = 1 ∨ r = 2 ∨ r = 3 ∨ r = 4 ∨ r = 5 by omega) with rfl | rfl | rfl | rfl | rfl | rfl <;> rfl
set_option maxRecDepth 20000 in
theorem wfSv (r n : Nat) (Ds : Nat → gDom) (D : gDom) (hr : r < 6) : (cHs 0 r n Ds (cDo 62 D)).all (gwf 72) = true := by
  rcases (show r = 0 ∨ r = 1 ∨ r = 2 ∨ r = 3 ∨ r = 4 ∨ r = 5 by omega) with rfl | rfl | rfl | rfl | rfl | rfl <;> rfl
theorem svR_lt {r n : Nat} (h : r < 6) : svR r n < 6 := by
  unfold svR
  split
  · exact h
  · exact Nat.mod_lt _ (by decide)
theorem svN_le {n : Nat} (h : n ≤ 6) : svN n ≤ 6 := by
  unfold svN
  split <;> omega
theorem saveS_ok {S : gGS} (h : gsOK S) : gsOK (saveS S) := ⟨h.1, h.2.1, h.2.2.1, svR_lt h.2.2.2.1, svN_le h.2.2.2.2.1, h.2.2.2.2.2⟩

theorem m_requireIndex (k n : Nat) (h : k < n) (hn : n ≤ 1000) : gM K_Gs_requireIndex { frames := 0, locals := 0, cells := 0, slots := 0 } [.int (nI k), .int (nI n)] ([]) (gD (.inl none) ([])) := by
  refine gM_of rfl rfl (Nat.le_of_ble_eq_true rfl) (fun sc => ?_)
  refine gW_b D_Gs_requireIndex 0 1 (pc' := 1) (l' := [(0, .int (nI k)), (1, .int (nI n))]) (st' := [.int (nI k)]) (h' := []) (P := True) rfl trivial ?_
  refine gW_if_lt (gdec_at D_Gs_requireIndex 1 rfl) (tgt := 9) rfl (fun cq => absurd cq (nI_pos (n := k) (by omega))) (fun _ => ?_)
  refine gW_b D_Gs_requireIndex 2 2 (pc' := 6) (l' := [(0, .int (nI k)), (1, .int (nI n))]) (st' := [.int (nI n), .int (nI k)]) (h' := []) (P := True) rfl trivial ?_
  refine gW_ic_lt (gdec_at D_Gs_requireIndex 4 rfl) (tgt := 20) rfl (fun _ => ?_) (fun cq => absurd ((glt (rfl : nI k = nI k) (rfl : nI n = nI n) (by omega) (by omega)).mpr (by omega)) cq)
  exact gW_vret (gdec_at D_Gs_requireIndex 10 rfl) rfl (Nat.le_of_ble_eq_true rfl) ⟨rfl, rfl⟩ (Nat.le_of_ble_eq_true rfl) (Nat.le_of_ble_eq_true rfl)

theorem m_requireRange (v a b : Int32) (h1 : ¬ v < a) (h2 : ¬ b < v) : gM K_Gs_requireRange { frames := 0, locals := 0, cells := 0, slots := 0 } [.int v, .int a, .int b] ([]) (gD (.inl none) ([])) := by
  refine gM_of rfl rfl (Nat.le_of_ble_eq_true rfl) (fun sc => ?_)
  refine gW_b D_Gs_requireRange 0 2 (pc' := 2) (l' := [(0, .int v), (1, .int a), (2, .int b)]) (st' := [.int a, .int v]) (h' := []) (P := True) rfl trivial ?_
  refine gW_ic_lt (gdec_at D_Gs_requireRange 2 rfl) (tgt := 10) rfl (fun cq => absurd cq h1) (fun _ => ?_)
  refine gW_b D_Gs_requireRange 3 2 (pc' := 7) (l' := [(0, .int v), (1, .int a), (2, .int b)]) (st' := [.int b, .int v]) (h' := []) (P := True) rfl trivial ?_
  refine gW_ic_le (gdec_at D_Gs_requireRange 5 rfl) (tgt := 21) rfl (fun _ => ?_) (fun cq => absurd (Int32.not_lt.mp h2) cq)
  exact gW_vret (gdec_at D_Gs_requireRange 11 rfl) rfl (Nat.le_of_ble_eq_true rfl) ⟨rfl, rfl⟩ (Nat.le_of_ble_eq_true rfl) (Nat.le_of_ble_eq_true rfl)

set_option maxRecDepth 20000 in
theorem m_setting (S : gGS) (hok : gsOK S) (k : Nat) (hk : k < 6) : gM K_Gs_setting { frames := 1, locals := 21, cells := 0, slots := 0 } [.ref 0, .int (nI k)] (cGs S) (gD (.inl (some (.int (dSt (sD S) k)))) (cGs S)) := by
  refine gM_of rfl rfl (Nat.le_of_ble_eq_true rfl) (fun sc => ?_)
  obtain ⟨hD, hs3, hs9, hr, hn, hT⟩ := id hok
  have hsz := hD.1
  refine gW_b D_Gs_setting 0 2 (pc' := 3) (l' := [(0, .ref 0), (1, .int (nI k))]) (st' := [.int 6, .int (nI k)]) (h' := cGs S) (P := True) rfl trivial ?_
  refine gW_callS (m_requireIndex k 6 (by omega) (by omega)) lk_Gs_37 (gps 0 0 0 0) (gdec_at D_Gs_setting 2 rfl) (st := []) rfl rfl (gCut_seg (Nat.le_of_ble_eq_true rfl) (Nat.le_of_ble_eq_true rfl) rfl (by decide +kernel)) (Nat.le_of_ble_eq_true rfl) (Nat.le_of_ble_eq_true rfl) ⟨Nat.le_of_ble_eq_true rfl, Nat.le_of_ble_eq_true rfl⟩ ⟨Nat.le_of_ble_eq_true rfl, Nat.le_of_ble_eq_true rfl⟩ (gAft_s (Nat.le_of_ble_eq_true rfl) (Nat.le_of_ble_eq_true rfl) rfl rfl rfl rfl (h' := cGs S) (st' := []) (pc' := 6) (cs' := 0) (ss' := 0) rfl rfl rfl rfl rfl ?_)
  refine gW_b D_Gs_setting 3 4 (pc' := 14) (l' := [(0, .ref 0), (1, .int (nI k))]) (st' := [.int (nI k), .ref 6]) (h' := cGs S) (P := True) rfl trivial ?_
  refine gW_callS (m_valueAt 6 k (dSt (sD S)) (by omega) (by omega)) lk_Gs_48 (gps 6 1 0 0) (gdec_at D_Gs_setting 7 rfl) (st := []) rfl rfl (gCut_seg (Nat.le_of_ble_eq_true rfl) (Nat.le_of_ble_eq_true rfl) rfl (by decide +kernel)) (Nat.le_of_ble_eq_true rfl) (Nat.le_of_ble_eq_true rfl) ⟨Nat.le_of_ble_eq_true rfl, Nat.le_of_ble_eq_true rfl⟩ ⟨Nat.le_of_ble_eq_true rfl, Nat.le_of_ble_eq_true rfl⟩ (gAft_s (Nat.le_of_ble_eq_true rfl) (Nat.le_of_ble_eq_true rfl) rfl rfl rfl rfl (h' := cGs S) (st' := [.int ((dSt (sD S)) k)]) (pc' := 17) (cs' := 0) (ss' := 0) rfl rfl rfl rfl rfl ?_)
  exact gW_iret (gdec_at D_Gs_setting 8 rfl) rfl rfl (Nat.le_of_ble_eq_true rfl) ⟨rfl, rfl⟩ (Nat.le_of_ble_eq_true rfl) (Nat.le_of_ble_eq_true rfl)
set_option maxRecDepth 20000 in
theorem m_tray (S : gGS) (hok : gsOK S) (a t : Nat) (ha : a < 6) (ht : t < 4) : gM K_Gs_tray { frames := 2, locals := 46, cells := 0, slots := 0 } [.ref 0, .int (nI a), .int (nI t)] (cGs S) (gD (.inl (some (.int (dTr (sD S) (a * 4 + t))))) (cGs S)) := by
  refine gM_of rfl rfl (Nat.le_of_ble_eq_true rfl) (fun sc => ?_)
  obtain ⟨hD, hs3, hs9, hr, hn, hT⟩ := id hok
  have hsz := hD.1
  refine gW_b D_Gs_tray 0 2 (pc' := 3) (l' := [(0, .ref 0), (1, .int (nI a)), (2, .int (nI t))]) (st' := [.int 6, .int (nI a)]) (h' := cGs S) (P := True) rfl trivial ?_
  refine gW_callS (m_requireIndex a 6 (by omega) (by omega)) lk_Gs_37 (gps 0 0 0 0) (gdec_at D_Gs_tray 2 rfl) (st := []) rfl rfl (gCut_seg (Nat.le_of_ble_eq_true rfl) (Nat.le_of_ble_eq_true rfl) rfl (by decide +kernel)) (Nat.le_of_ble_eq_true rfl) (Nat.le_of_ble_eq_true rfl) ⟨Nat.le_of_ble_eq_true rfl, Nat.le_of_ble_eq_true rfl⟩ ⟨Nat.le_of_ble_eq_true rfl, Nat.le_of_ble_eq_true rfl⟩ (gAft_s (Nat.le_of_ble_eq_true rfl) (Nat.le_of_ble_eq_true rfl) rfl rfl rfl rfl (h' := cGs S) (st' := []) (pc' := 6) (cs' := 0) (ss' := 0) rfl rfl rfl rfl rfl ?_)
  refine gW_b D_Gs_tray 3 2 (pc' := 8) (l' := [(0, .ref 0), (1, .int (nI a)), (2, .int (nI t))]) (st' := [.int (-1), .int (nI t)]) (h' := cGs S) (P := True) rfl trivial ?_
  refine gW_ic_ne (gdec_at D_Gs_tray 5 rfl) (tgt := 23) rfl (fun _ => ?_) (fun cq => absurd cq (nI_ne_m1 (by omega)))
  refine gW_b D_Gs_tray 12 2 (pc' := 25) (l' := [(0, .ref 0), (1, .int (nI a)), (2, .int (nI t))]) (st' := [.int 4, .int (nI t)]) (h' := cGs S) (P := True) rfl trivial ?_
  refine gW_callS (m_requireIndex t 4 (by omega) (by omega)) lk_Gs_37 (gps 0 0 0 0) (gdec_at D_Gs_tray 14 rfl) (st := []) rfl rfl (gCut_seg (Nat.le_of_ble_eq_true rfl) (Nat.le_of_ble_eq_true rfl) rfl (by decide +kernel)) (Nat.le_of_ble_eq_true rfl) (Nat.le_of_ble_eq_true rfl) ⟨Nat.le_of_ble_eq_true rfl, Nat.le_of_ble_eq_true rfl⟩ ⟨Nat.le_of_ble_eq_true rfl, Nat.le_of_ble_eq_true rfl⟩ (gAft_s (Nat.le_of_ble_eq_true rfl) (Nat.le_of_ble_eq_true rfl) rfl rfl rfl rfl (h' := cGs S) (st' := []) (pc' := 28) (cs' := 0) (ss' := 0) rfl rfl rfl rfl rfl ?_)
  refine gW_b D_Gs_tray 15 5 (pc' := 37) (l' := [(0, .ref 0), (1, .int (nI a)), (2, .int (nI t))]) (st' := [.int (nI t), .int (nI a), .ref 2]) (h' := cGs S) (P := True) rfl trivial ?_
  refine gW_callV (m_held (dTr (sD S)) a t (by omega) (by omega)) lk_Gs_184 (gps 2 2 0 0) (gdec_at D_Gs_tray 20 rfl) (st := []) rfl rfl (gCut_seg (Nat.le_of_ble_eq_true rfl) (Nat.le_of_ble_eq_true rfl) rfl (by decide +kernel)) (Nat.le_of_ble_eq_true rfl) rfl (by decide) rfl (Nat.le_of_ble_eq_true rfl) ⟨Nat.le_of_ble_eq_true rfl, Nat.le_of_ble_eq_true rfl⟩ ⟨Nat.le_of_ble_eq_true rfl, Nat.le_of_ble_eq_true rfl⟩ (gAft_s (Nat.le_of_ble_eq_true rfl) (Nat.le_of_ble_eq_true rfl) rfl rfl rfl rfl (h' := cGs S) (st' := [.int ((dTr (sD S)) (a * 4 + t))]) (pc' := 40) (cs' := 0) (ss' := 0) rfl rfl rfl rfl rfl ?_)
  exact gW_iret (gdec_at D_Gs_tray 21 rfl) rfl rfl (Nat.le_of_ble_eq_true rfl) ⟨rfl, rfl⟩ (Nat.le_of_ble_eq_true rfl) (Nat.le_of_ble_eq_true rfl)
set_option maxRecDepth 20000 in
theorem m_tray_all (S : gGS) (hok : gsOK S) (a : Nat) (ha : a < 6) : gM K_Gs_tray { frames := 2, locals := 46, cells := 0, slots := 0 } [.ref 0, .int (nI a), .int (-1)] (cGs S) (gD (.inl (some (.int (hA (dTr (sD S)) a)))) (cGs S)) := by
  refine gM_of rfl rfl (Nat.le_of_ble_eq_true rfl) (fun sc => ?_)
  obtain ⟨hD, hs3, hs9, hr, hn, hT⟩ := id hok
  have hsz := hD.1
  refine gW_b D_Gs_tray 0 2 (pc' := 3) (l' := [(0, .ref 0), (1, .int (nI a)), (2, .int (-1))]) (st' := [.int 6, .int (nI a)]) (h' := cGs S) (P := True) rfl trivial ?_
  refine gW_callS (m_requireIndex a 6 (by omega) (by omega)) lk_Gs_37 (gps 0 0 0 0) (gdec_at D_Gs_tray 2 rfl) (st := []) rfl rfl (gCut_seg (Nat.le_of_ble_eq_true rfl) (Nat.le_of_ble_eq_true rfl) rfl (by decide +kernel)) (Nat.le_of_ble_eq_true rfl) (Nat.le_of_ble_eq_true rfl) ⟨Nat.le_of_ble_eq_true rfl, Nat.le_of_ble_eq_true rfl⟩ ⟨Nat.le_of_ble_eq_true rfl, Nat.le_of_ble_eq_true rfl⟩ (gAft_s (Nat.le_of_ble_eq_true rfl) (Nat.le_of_ble_eq_true rfl) rfl rfl rfl rfl (h' := cGs S) (st' := []) (pc' := 6) (cs' := 0) (ss' := 0) rfl rfl rfl rfl rfl ?_)
  refine gW_b D_Gs_tray 3 2 (pc' := 8) (l' := [(0, .ref 0), (1, .int (nI a)), (2, .int (-1))]) (st' := [.int (-1), .int (-1)]) (h' := cGs S) (P := True) rfl trivial ?_
  refine gW_ic_ne (gdec_at D_Gs_tray 5 rfl) (tgt := 23) rfl (fun cq => absurd (by decide) cq) (fun _ => ?_)
  refine gW_b D_Gs_tray 6 4 (pc' := 19) (l' := [(0, .ref 0), (1, .int (nI a)), (2, .int (-1))]) (st' := [.int (nI a), .ref 2]) (h' := cGs S) (P := True) rfl trivial ?_
  refine gW_callV (m_heldInAll (dTr (sD S)) a (by omega)) lk_Gs_179 (gps 2 2 0 0) (gdec_at D_Gs_tray 10 rfl) (st := []) rfl rfl (gCut_seg (Nat.le_of_ble_eq_true rfl) (Nat.le_of_ble_eq_true rfl) rfl (by decide +kernel)) (Nat.le_of_ble_eq_true rfl) rfl (by decide) rfl (Nat.le_of_ble_eq_true rfl) ⟨Nat.le_of_ble_eq_true rfl, Nat.le_of_ble_eq_true rfl⟩ ⟨Nat.le_of_ble_eq_true rfl, Nat.le_of_ble_eq_true rfl⟩ (gAft_s (Nat.le_of_ble_eq_true rfl) (Nat.le_of_ble_eq_true rfl) rfl rfl rfl rfl (h' := cGs S) (st' := [.int (hA (dTr (sD S)) a)]) (pc' := 22) (cs' := 0) (ss' := 0) rfl rfl rfl rfl rfl ?_)
  exact gW_iret (gdec_at D_Gs_tray 11 rfl) rfl rfl (Nat.le_of_ble_eq_true rfl) ⟨rfl, rfl⟩ (Nat.le_of_ble_eq_true rfl) (Nat.le_of_ble_eq_true rfl)
set_option maxRecDepth 20000 in
theorem m_sectionOf (S : gGS) (hok : gsOK S) (p k : Nat) (hp : p < dSz (sD S)) (hk : k < 5) : gM K_Gs_sectionOf { frames := 1, locals := 23, cells := 0, slots := 0 } [.ref 0, .int (nI p), .int (nI k)] (cGs S) (gD (.inl (some (.int (dG (sD S) (p * 5 + k))))) (cGs S)) := by
  refine gM_of rfl rfl (Nat.le_of_ble_eq_true rfl) (fun sc => ?_)
  obtain ⟨hD, hs3, hs9, hr, hn, hT⟩ := id hok
  have hsz := hD.1
  refine gW_b D_Gs_sectionOf 0 1 (pc' := 1) (l' := [(0, .ref 0), (1, .int (nI p)), (2, .int (nI k))]) (st' := [.int (nI p)]) (h' := cGs S) (P := True) rfl trivial ?_
  refine gW_if_ge (gdec_at D_Gs_sectionOf 1 rfl) (tgt := 14) rfl (fun _ => ?_) (fun cq => absurd (nI_pos' (by omega)) cq)
  refine gW_b D_Gs_sectionOf 7 3 (pc' := 17) (l' := [(0, .ref 0), (1, .int (nI p)), (2, .int (nI k))]) (st' := [.int 5, .int 0, .int (nI k)]) (h' := cGs S) (P := True) rfl trivial ?_
  refine gW_callS (m_requireRange (nI k) 0 5 (mt (glt (rfl : nI k = nI k) (gk 0) (by omega) (by omega)).mp (by omega)) (mt (glt (gk 5) (rfl : nI k = nI k) (by omega) (by omega)).mp (by omega))) lk_Gs_41 (gps 0 0 0 0) (gdec_at D_Gs_sectionOf 10 rfl) (st := []) rfl rfl (gCut_seg (Nat.le_of_ble_eq_true rfl) (Nat.le_of_ble_eq_true rfl) rfl (by decide +kernel)) (Nat.le_of_ble_eq_true rfl) (Nat.le_of_ble_eq_true rfl) ⟨Nat.le_of_ble_eq_true rfl, Nat.le_of_ble_eq_true rfl⟩ ⟨Nat.le_of_ble_eq_true rfl, Nat.le_of_ble_eq_true rfl⟩ (gAft_s (Nat.le_of_ble_eq_true rfl) (Nat.le_of_ble_eq_true rfl) rfl rfl rfl rfl (h' := cGs S) (st' := []) (pc' := 20) (cs' := 0) (ss' := 0) rfl rfl rfl rfl rfl ?_)
  refine gW_b D_Gs_sectionOf 11 5 (pc' := 31) (l' := [(0, .ref 0), (1, .int (nI p)), (2, .int (nI k))]) (st' := [.int (nI (dSz (sD S))), .int (nI p)]) (h' := cGs S) (P := True) rfl trivial ?_
  refine gW_ic_lt (gdec_at D_Gs_sectionOf 16 rfl) (tgt := 36) rfl (fun _ => ?_) (fun cq => absurd ((glt (rfl : nI p = nI p) (rfl : nI (dSz (sD S)) = nI (dSz (sD S))) (by omega) (by omega)).mpr (by omega)) cq)
  refine gW_b D_Gs_sectionOf 19 2 (pc' := 38) (l' := [(0, .ref 0), (1, .int (nI p)), (2, .int (nI k))]) (st' := [.int 5, .int (nI k)]) (h' := cGs S) (P := True) rfl trivial ?_
  refine gW_ic_ne (gdec_at D_Gs_sectionOf 21 rfl) (tgt := 69) rfl (fun _ => ?_) (fun cq => absurd cq (mt (geq (rfl : nI k = nI k) (gk 5) (by omega) (by omega)).mp (by omega)))
  refine gW_b D_Gs_sectionOf 36 5 (pc' := 78) (l' := [(0, .ref 0), (1, .int (nI p)), (2, .int (nI k))]) (st' := [.int (nI k), .int (nI p), .ref 4]) (h' := cGs S) (P := True) rfl trivial ?_
  refine gW_callV (m_valueOf (dG (sD S)) (dSz (sD S)) (dC (sD S)) p k (by omega) (by omega) (by omega)) lk_Gs_189 (gps 4 2 0 0) (gdec_at D_Gs_sectionOf 41 rfl) (st := []) rfl rfl (gCut_seg (Nat.le_of_ble_eq_true rfl) (Nat.le_of_ble_eq_true rfl) rfl (by decide +kernel)) (Nat.le_of_ble_eq_true rfl) rfl (by decide) rfl (Nat.le_of_ble_eq_true rfl) ⟨Nat.le_of_ble_eq_true rfl, Nat.le_of_ble_eq_true rfl⟩ ⟨Nat.le_of_ble_eq_true rfl, Nat.le_of_ble_eq_true rfl⟩ (gAft_s (Nat.le_of_ble_eq_true rfl) (Nat.le_of_ble_eq_true rfl) rfl rfl rfl rfl (h' := cGs S) (st' := [.int ((dG (sD S)) (p * 5 + k))]) (pc' := 81) (cs' := 0) (ss' := 0) rfl rfl rfl rfl rfl ?_)
  exact gW_iret (gdec_at D_Gs_sectionOf 42 rfl) rfl rfl (Nat.le_of_ble_eq_true rfl) ⟨rfl, rfl⟩ (Nat.le_of_ble_eq_true rfl) (Nat.le_of_ble_eq_true rfl)
set_option maxRecDepth 20000 in
theorem m_sectionOf_5 (S : gGS) (hok : gsOK S) (p : Nat) (hp : p < dSz (sD S)) : gM K_Gs_sectionOf { frames := 1, locals := 23, cells := 0, slots := 0 } [.ref 0, .int (nI p), .int 5] (cGs S) (gD (.inl (some (.int (bI (decide (dG (sD S) (p * 5 + 3) < dDy (sD S))))))) (cGs S)) := by
  refine gM_of rfl rfl (Nat.le_of_ble_eq_true rfl) (fun sc => ?_)
  obtain ⟨hD, hs3, hs9, hr, hn, hT⟩ := id hok
  have hsz := hD.1
  refine gW_b D_Gs_sectionOf 0 1 (pc' := 1) (l' := [(0, .ref 0), (1, .int (nI p)), (2, .int 5)]) (st' := [.int (nI p)]) (h' := cGs S) (P := True) rfl trivial ?_
  refine gW_if_ge (gdec_at D_Gs_sectionOf 1 rfl) (tgt := 14) rfl (fun _ => ?_) (fun cq => absurd (nI_pos' (by omega)) cq)
  refine gW_b D_Gs_sectionOf 7 3 (pc' := 17) (l' := [(0, .ref 0), (1, .int (nI p)), (2, .int 5)]) (st' := [.int 5, .int 0, .int 5]) (h' := cGs S) (P := True) rfl trivial ?_
  refine gW_callS (m_requireRange 5 0 5 (by decide) (by decide)) lk_Gs_41 (gps 0 0 0 0) (gdec_at D_Gs_sectionOf 10 rfl) (st := []) rfl rfl (gCut_seg (Nat.le_of_ble_eq_true rfl) (Nat.le_of_ble_eq_true rfl) rfl (by decide +kernel)) (Nat.le_of_ble_eq_true rfl) (Nat.le_of_ble_eq_true rfl) ⟨Nat.le_of_ble_eq_true rfl, Nat.le_of_ble_eq_true rfl⟩ ⟨Nat.le_of_ble_eq_true rfl, Nat.le_of_ble_eq_true rfl⟩ (gAft_s (Nat.le_of_ble_eq_true rfl) (Nat.le_of_ble_eq_true rfl) rfl rfl rfl rfl (h' := cGs S) (st' := []) (pc' := 20) (cs' := 0) (ss' := 0) rfl rfl rfl rfl rfl ?_)
  refine gW_b D_Gs_sectionOf 11 5 (pc' := 31) (l' := [(0, .ref 0), (1, .int (nI p)), (2, .int 5)]) (st' := [.int (nI (dSz (sD S))), .int (nI p)]) (h' := cGs S) (P := True) rfl trivial ?_
  refine gW_ic_lt (gdec_at D_Gs_sectionOf 16 rfl) (tgt := 36) rfl (fun _ => ?_) (fun cq => absurd ((glt (rfl : nI p = nI p) (rfl : nI (dSz (sD S)) = nI (dSz (sD S))) (by omega) (by omega)).mpr (by omega)) cq)
  refine gW_b D_Gs_sectionOf 19 2 (pc' := 38) (l' := [(0, .ref 0), (1, .int (nI p)), (2, .int 5)]) (st' := [.int 5, .int 5]) (h' := cGs S) (P := True) rfl trivial ?_
  refine gW_ic_ne (gdec_at D_Gs_sectionOf 21 rfl) (tgt := 69) rfl (fun cq => absurd (by decide) cq) (fun _ => ?_)
  refine gW_b D_Gs_sectionOf 22 8 (pc' := 57) (l' := [(0, .ref 0), (1, .int (nI p)), (2, .int 5)]) (st' := [.int 3, .int (nI p), .ref 4, .int (dDy (sD S))]) (h' := cGs S) (P := True) rfl trivial ?_
  refine gW_callV (m_valueOf (dG (sD S)) (dSz (sD S)) (dC (sD S)) p 3 (by omega) (by omega) (by omega)) lk_Gs_189 (gps 4 2 0 0) (gdec_at D_Gs_sectionOf 30 rfl) (st := [.int (dDy (sD S))]) rfl rfl (gCut_seg (Nat.le_of_ble_eq_true rfl) (Nat.le_of_ble_eq_true rfl) rfl (by decide +kernel)) (Nat.le_of_ble_eq_true rfl) rfl (by decide) rfl (Nat.le_of_ble_eq_true rfl) ⟨Nat.le_of_ble_eq_true rfl, Nat.le_of_ble_eq_true rfl⟩ ⟨Nat.le_of_ble_eq_true rfl, Nat.le_of_ble_eq_true rfl⟩ (gAft_s (Nat.le_of_ble_eq_true rfl) (Nat.le_of_ble_eq_true rfl) rfl rfl rfl rfl (h' := cGs S) (st' := [.int ((dG (sD S)) (p * 5 + 3)), .int (dDy (sD S))]) (pc' := 60) (cs' := 0) (ss' := 0) rfl rfl rfl rfl rfl ?_)
  refine gW_ic_le (gdec_at D_Gs_sectionOf 31 rfl) (tgt := 67) rfl (fun c => ?_) (fun c => ?_)
  · skip
    refine gW_b D_Gs_sectionOf 34 1 (pc' := 68) (l' := [(0, .ref 0), (1, .int (nI p)), (2, .int 5)]) (st' := [.int 0]) (h' := cGs S) (P := True) rfl trivial ?_
    rw [show bI (decide (dG (sD S) (p * 5 + 3) < dDy (sD S))) = 0 from by rw [decide_eq_false (Int32.not_lt.mpr c)]; rfl]
    exact gW_iret (gdec_at D_Gs_sectionOf 35 rfl) rfl rfl (Nat.le_of_ble_eq_true rfl) ⟨rfl, rfl⟩ (Nat.le_of_ble_eq_true rfl) (Nat.le_of_ble_eq_true rfl)
  · skip
    refine gW_b D_Gs_sectionOf 32 2 (pc' := 68) (l' := [(0, .ref 0), (1, .int (nI p)), (2, .int 5)]) (st' := [.int 1]) (h' := cGs S) (P := True) rfl trivial ?_
    rw [show bI (decide (dG (sD S) (p * 5 + 3) < dDy (sD S))) = 1 from by rw [decide_eq_true (Int32.not_le.mp c)]; rfl]
    exact gW_iret (gdec_at D_Gs_sectionOf 35 rfl) rfl rfl (Nat.le_of_ble_eq_true rfl) ⟨rfl, rfl⟩ (Nat.le_of_ble_eq_true rfl) (Nat.le_of_ble_eq_true rfl)
set_option maxRecDepth 20000 in
theorem m_sectionOf_n (S : gGS) (hok : gsOK S) (x k : Int32) (h0 : ¬ x < 0) (hx : nI (dSz (sD S)) ≤ x) (h1 : ¬ k < 0) (h2 : ¬ 5 < k) : gM K_Gs_sectionOf { frames := 1, locals := 23, cells := 0, slots := 0 } [.ref 0, .int x, .int k] (cGs S) (gD (.inl (some (.int (-1)))) (cGs S)) := by
  refine gM_of rfl rfl (Nat.le_of_ble_eq_true rfl) (fun sc => ?_)
  obtain ⟨hD, hs3, hs9, hr, hn, hT⟩ := id hok
  have hsz := hD.1
  refine gW_b D_Gs_sectionOf 0 1 (pc' := 1) (l' := [(0, .ref 0), (1, .int x), (2, .int k)]) (st' := [.int x]) (h' := cGs S) (P := True) rfl trivial ?_
  refine gW_if_ge (gdec_at D_Gs_sectionOf 1 rfl) (tgt := 14) rfl (fun _ => ?_) (fun cq => absurd (Int32.not_lt.mp h0) cq)
  refine gW_b D_Gs_sectionOf 7 3 (pc' := 17) (l' := [(0, .ref 0), (1, .int x), (2, .int k)]) (st' := [.int 5, .int 0, .int k]) (h' := cGs S) (P := True) rfl trivial ?_
  refine gW_callS (m_requireRange k 0 5 h1 h2) lk_Gs_41 (gps 0 0 0 0) (gdec_at D_Gs_sectionOf 10 rfl) (st := []) rfl rfl (gCut_seg (Nat.le_of_ble_eq_true rfl) (Nat.le_of_ble_eq_true rfl) rfl (by decide +kernel)) (Nat.le_of_ble_eq_true rfl) (Nat.le_of_ble_eq_true rfl) ⟨Nat.le_of_ble_eq_true rfl, Nat.le_of_ble_eq_true rfl⟩ ⟨Nat.le_of_ble_eq_true rfl, Nat.le_of_ble_eq_true rfl⟩ (gAft_s (Nat.le_of_ble_eq_true rfl) (Nat.le_of_ble_eq_true rfl) rfl rfl rfl rfl (h' := cGs S) (st' := []) (pc' := 20) (cs' := 0) (ss' := 0) rfl rfl rfl rfl rfl ?_)
  refine gW_b D_Gs_sectionOf 11 5 (pc' := 31) (l' := [(0, .ref 0), (1, .int x), (2, .int k)]) (st' := [.int (nI (dSz (sD S))), .int x]) (h' := cGs S) (P := True) rfl trivial ?_
  refine gW_ic_lt (gdec_at D_Gs_sectionOf 16 rfl) (tgt := 36) rfl (fun cq => absurd cq (Int32.not_lt.mpr hx)) (fun _ => ?_)
  refine gW_b D_Gs_sectionOf 17 1 (pc' := 35) (l' := [(0, .ref 0), (1, .int x), (2, .int k)]) (st' := [.int (-1)]) (h' := cGs S) (P := True) rfl trivial ?_
  exact gW_iret (gdec_at D_Gs_sectionOf 18 rfl) rfl rfl (Nat.le_of_ble_eq_true rfl) ⟨rfl, rfl⟩ (Nat.le_of_ble_eq_true rfl) (Nat.le_of_ble_eq_true rfl)
set_option maxRecDepth 20000 in
theorem m_tone_0 (S : gGS) (hok : gsOK S) (t : Nat) (ht : t < 4) : gM K_Gs_tone { frames := 2, locals := 46, cells := 0, slots := 0 } [.ref 0, .int (nI t), .int 0] (cGs S) (gD (.inl (some (.int (dSh (sD S) t)))) (cGs S)) := by
  refine gM_of rfl rfl (Nat.le_of_ble_eq_true rfl) (fun sc => ?_)
  obtain ⟨hD, hs3, hs9, hr, hn, hT⟩ := id hok
  have hsz := hD.1
  refine gW_b D_Gs_tone 0 2 (pc' := 2) (l' := [(0, .ref 0), (1, .int (nI t)), (2, .int 0)]) (st' := [.int 4, .int (nI t)]) (h' := cGs S) (P := True) rfl trivial ?_
  refine gW_callS (m_requireIndex t 4 (by omega) (by omega)) lk_Gs_37 (gps 0 0 0 0) (gdec_at D_Gs_tone 2 rfl) (st := []) rfl rfl (gCut_seg (Nat.le_of_ble_eq_true rfl) (Nat.le_of_ble_eq_true rfl) rfl (by decide +kernel)) (Nat.le_of_ble_eq_true rfl) (Nat.le_of_ble_eq_true rfl) ⟨Nat.le_of_ble_eq_true rfl, Nat.le_of_ble_eq_true rfl⟩ ⟨Nat.le_of_ble_eq_true rfl, Nat.le_of_ble_eq_true rfl⟩ (gAft_s (Nat.le_of_ble_eq_true rfl) (Nat.le_of_ble_eq_true rfl) rfl rfl rfl rfl (h' := cGs S) (st' := []) (pc' := 5) (cs' := 0) (ss' := 0) rfl rfl rfl rfl rfl ?_)
  refine gW_b D_Gs_tone 3 1 (pc' := 6) (l' := [(0, .ref 0), (1, .int (nI t)), (2, .int 0)]) (st' := [.int 0]) (h' := cGs S) (P := True) rfl trivial ?_
  refine gW_tin S_Gs_tone_6 (tgt := 48) (by decide) (by decide) (off := 42) (by decide) rfl ?_
  refine gW_b D_Gs_tone 4 4 (pc' := 56) (l' := [(0, .ref 0), (1, .int (nI t)), (2, .int 0)]) (st' := [.int (nI t), .ref 7]) (h' := cGs S) (P := True) rfl trivial ?_
  refine gW_callS (m_valueAt 4 t (dSh (sD S)) (by omega) (by omega)) lk_Gs_48 (gps 7 1 0 0) (gdec_at D_Gs_tone 8 rfl) (st := []) rfl rfl (gCut_seg (Nat.le_of_ble_eq_true rfl) (Nat.le_of_ble_eq_true rfl) rfl (by decide +kernel)) (Nat.le_of_ble_eq_true rfl) (Nat.le_of_ble_eq_true rfl) ⟨Nat.le_of_ble_eq_true rfl, Nat.le_of_ble_eq_true rfl⟩ ⟨Nat.le_of_ble_eq_true rfl, Nat.le_of_ble_eq_true rfl⟩ (gAft_s (Nat.le_of_ble_eq_true rfl) (Nat.le_of_ble_eq_true rfl) rfl rfl rfl rfl (h' := cGs S) (st' := [.int ((dSh (sD S)) t)]) (pc' := 59) (cs' := 0) (ss' := 0) rfl rfl rfl rfl rfl ?_)
  exact gW_iret (gdec_at D_Gs_tone 9 rfl) rfl rfl (Nat.le_of_ble_eq_true rfl) ⟨rfl, rfl⟩ (Nat.le_of_ble_eq_true rfl) (Nat.le_of_ble_eq_true rfl)
set_option maxRecDepth 20000 in
theorem m_tone_1 (S : gGS) (hok : gsOK S) (t : Nat) (ht : t < 4) : gM K_Gs_tone { frames := 2, locals := 46, cells := 0, slots := 0 } [.ref 0, .int (nI t), .int 1] (cGs S) (gD (.inl (some (.int (hO (dTr (sD S)) t)))) (cGs S)) := by
  refine gM_of rfl rfl (Nat.le_of_ble_eq_true rfl) (fun sc => ?_)
  obtain ⟨hD, hs3, hs9, hr, hn, hT⟩ := id hok
  have hsz := hD.1
  refine gW_b D_Gs_tone 0 2 (pc' := 2) (l' := [(0, .ref 0), (1, .int (nI t)), (2, .int 1)]) (st' := [.int 4, .int (nI t)]) (h' := cGs S) (P := True) rfl trivial ?_
  refine gW_callS (m_requireIndex t 4 (by omega) (by omega)) lk_Gs_37 (gps 0 0 0 0) (gdec_at D_Gs_tone 2 rfl) (st := []) rfl rfl (gCut_seg (Nat.le_of_ble_eq_true rfl) (Nat.le_of_ble_eq_true rfl) rfl (by decide +kernel)) (Nat.le_of_ble_eq_true rfl) (Nat.le_of_ble_eq_true rfl) ⟨Nat.le_of_ble_eq_true rfl, Nat.le_of_ble_eq_true rfl⟩ ⟨Nat.le_of_ble_eq_true rfl, Nat.le_of_ble_eq_true rfl⟩ (gAft_s (Nat.le_of_ble_eq_true rfl) (Nat.le_of_ble_eq_true rfl) rfl rfl rfl rfl (h' := cGs S) (st' := []) (pc' := 5) (cs' := 0) (ss' := 0) rfl rfl rfl rfl rfl ?_)
  refine gW_b D_Gs_tone 3 1 (pc' := 6) (l' := [(0, .ref 0), (1, .int (nI t)), (2, .int 1)]) (st' := [.int 1]) (h' := cGs S) (P := True) rfl trivial ?_
  refine gW_tin S_Gs_tone_6 (tgt := 60) (by decide) (by decide) (off := 54) (by decide) rfl ?_
  refine gW_b D_Gs_tone 10 4 (pc' := 68) (l' := [(0, .ref 0), (1, .int (nI t)), (2, .int 1)]) (st' := [.int (nI t), .ref 2]) (h' := cGs S) (P := True) rfl trivial ?_
  refine gW_callV (m_heldOf (dTr (sD S)) t (by omega)) lk_Gs_192 (gps 2 2 0 0) (gdec_at D_Gs_tone 14 rfl) (st := []) rfl rfl (gCut_seg (Nat.le_of_ble_eq_true rfl) (Nat.le_of_ble_eq_true rfl) rfl (by decide +kernel)) (Nat.le_of_ble_eq_true rfl) rfl (by decide) rfl (Nat.le_of_ble_eq_true rfl) ⟨Nat.le_of_ble_eq_true rfl, Nat.le_of_ble_eq_true rfl⟩ ⟨Nat.le_of_ble_eq_true rfl, Nat.le_of_ble_eq_true rfl⟩ (gAft_s (Nat.le_of_ble_eq_true rfl) (Nat.le_of_ble_eq_true rfl) rfl rfl rfl rfl (h' := cGs S) (st' := [.int (hO (dTr (sD S)) t)]) (pc' := 71) (cs' := 0) (ss' := 0) rfl rfl rfl rfl rfl ?_)
  exact gW_iret (gdec_at D_Gs_tone 15 rfl) rfl rfl (Nat.le_of_ble_eq_true rfl) ⟨rfl, rfl⟩ (Nat.le_of_ble_eq_true rfl) (Nat.le_of_ble_eq_true rfl)
set_option maxRecDepth 20000 in
theorem m_tone_2 (S : gGS) (hok : gsOK S) (t : Nat) (ht : t < 4) : gM K_Gs_tone { frames := 2, locals := 46, cells := 0, slots := 0 } [.ref 0, .int (nI t), .int 2] (cGs S) (gD (.inl (some (.int (rdc (dTr (sD S)) t 6)))) (cGs S)) := by
  refine gM_of rfl rfl (Nat.le_of_ble_eq_true rfl) (fun sc => ?_)
  obtain ⟨hD, hs3, hs9, hr, hn, hT⟩ := id hok
  have hsz := hD.1
  refine gW_b D_Gs_tone 0 2 (pc' := 2) (l' := [(0, .ref 0), (1, .int (nI t)), (2, .int 2)]) (st' := [.int 4, .int (nI t)]) (h' := cGs S) (P := True) rfl trivial ?_
  refine gW_callS (m_requireIndex t 4 (by omega) (by omega)) lk_Gs_37 (gps 0 0 0 0) (gdec_at D_Gs_tone 2 rfl) (st := []) rfl rfl (gCut_seg (Nat.le_of_ble_eq_true rfl) (Nat.le_of_ble_eq_true rfl) rfl (by decide +kernel)) (Nat.le_of_ble_eq_true rfl) (Nat.le_of_ble_eq_true rfl) ⟨Nat.le_of_ble_eq_true rfl, Nat.le_of_ble_eq_true rfl⟩ ⟨Nat.le_of_ble_eq_true rfl, Nat.le_of_ble_eq_true rfl⟩ (gAft_s (Nat.le_of_ble_eq_true rfl) (Nat.le_of_ble_eq_true rfl) rfl rfl rfl rfl (h' := cGs S) (st' := []) (pc' := 5) (cs' := 0) (ss' := 0) rfl rfl rfl rfl rfl ?_)
  refine gW_b D_Gs_tone 3 1 (pc' := 6) (l' := [(0, .ref 0), (1, .int (nI t)), (2, .int 2)]) (st' := [.int 2]) (h' := cGs S) (P := True) rfl trivial ?_
  refine gW_tin S_Gs_tone_6 (tgt := 72) (by decide) (by decide) (off := 66) (by decide) rfl ?_
  refine gW_b D_Gs_tone 16 4 (pc' := 80) (l' := [(0, .ref 0), (1, .int (nI t)), (2, .int 2)]) (st' := [.int (nI t), .ref 2]) (h' := cGs S) (P := True) rfl trivial ?_
  refine gW_callV (m_readyOf (dTr (sD S)) t (by omega)) lk_Gs_195 (gps 2 2 0 0) (gdec_at D_Gs_tone 20 rfl) (st := []) rfl rfl (gCut_seg (Nat.le_of_ble_eq_true rfl) (Nat.le_of_ble_eq_true rfl) rfl (by decide +kernel)) (Nat.le_of_ble_eq_true rfl) rfl (by decide) rfl (Nat.le_of_ble_eq_true rfl) ⟨Nat.le_of_ble_eq_true rfl, Nat.le_of_ble_eq_true rfl⟩ ⟨Nat.le_of_ble_eq_true rfl, Nat.le_of_ble_eq_true rfl⟩ (gAft_s (Nat.le_of_ble_eq_true rfl) (Nat.le_of_ble_eq_true rfl) rfl rfl rfl rfl (h' := cGs S) (st' := [.int (rdc (dTr (sD S)) t 6)]) (pc' := 83) (cs' := 0) (ss' := 0) rfl rfl rfl rfl rfl ?_)
  exact gW_iret (gdec_at D_Gs_tone 21 rfl) rfl rfl (Nat.le_of_ble_eq_true rfl) ⟨rfl, rfl⟩ (Nat.le_of_ble_eq_true rfl) (Nat.le_of_ble_eq_true rfl)
set_option maxRecDepth 20000 in
theorem m_tone_3 (S : gGS) (hok : gsOK S) (t : Nat) (ht : t < 4) : gM K_Gs_tone { frames := 2, locals := 46, cells := 0, slots := 0 } [.ref 0, .int (nI t), .int 3] (cGs S) (gD (.inl (some (.int (dCu (sD S) t)))) (cGs S)) := by
  refine gM_of rfl rfl (Nat.le_of_ble_eq_true rfl) (fun sc => ?_)
  obtain ⟨hD, hs3, hs9, hr, hn, hT⟩ := id hok
  have hsz := hD.1
  refine gW_b D_Gs_tone 0 2 (pc' := 2) (l' := [(0, .ref 0), (1, .int (nI t)), (2, .int 3)]) (st' := [.int 4, .int (nI t)]) (h' := cGs S) (P := True) rfl trivial ?_
  refine gW_callS (m_requireIndex t 4 (by omega) (by omega)) lk_Gs_37 (gps 0 0 0 0) (gdec_at D_Gs_tone 2 rfl) (st := []) rfl rfl (gCut_seg (Nat.le_of_ble_eq_true rfl) (Nat.le_of_ble_eq_true rfl) rfl (by decide +kernel)) (Nat.le_of_ble_eq_true rfl) (Nat.le_of_ble_eq_true rfl) ⟨Nat.le_of_ble_eq_true rfl, Nat.le_of_ble_eq_true rfl⟩ ⟨Nat.le_of_ble_eq_true rfl, Nat.le_of_ble_eq_true rfl⟩ (gAft_s (Nat.le_of_ble_eq_true rfl) (Nat.le_of_ble_eq_true rfl) rfl rfl rfl rfl (h' := cGs S) (st' := []) (pc' := 5) (cs' := 0) (ss' := 0) rfl rfl rfl rfl rfl ?_)
  refine gW_b D_Gs_tone 3 1 (pc' := 6) (l' := [(0, .ref 0), (1, .int (nI t)), (2, .int 3)]) (st' := [.int 3]) (h' := cGs S) (P := True) rfl trivial ?_
  refine gW_tin S_Gs_tone_6 (tgt := 84) (by decide) (by decide) (off := 78) (by decide) rfl ?_
  refine gW_b D_Gs_tone 22 4 (pc' := 92) (l' := [(0, .ref 0), (1, .int (nI t)), (2, .int 3)]) (st' := [.int (nI t), .ref 8]) (h' := cGs S) (P := True) rfl trivial ?_
  refine gW_callS (m_valueAt 4 t (dCu (sD S)) (by omega) (by omega)) lk_Gs_48 (gps 8 1 0 0) (gdec_at D_Gs_tone 26 rfl) (st := []) rfl rfl (gCut_seg (Nat.le_of_ble_eq_true rfl) (Nat.le_of_ble_eq_true rfl) rfl (by decide +kernel)) (Nat.le_of_ble_eq_true rfl) (Nat.le_of_ble_eq_true rfl) ⟨Nat.le_of_ble_eq_true rfl, Nat.le_of_ble_eq_true rfl⟩ ⟨Nat.le_of_ble_eq_true rfl, Nat.le_of_ble_eq_true rfl⟩ (gAft_s (Nat.le_of_ble_eq_true rfl) (Nat.le_of_ble_eq_true rfl) rfl rfl rfl rfl (h' := cGs S) (st' := [.int ((dCu (sD S)) t)]) (pc' := 95) (cs' := 0) (ss' := 0) rfl rfl rfl rfl rfl ?_)
  exact gW_iret (gdec_at D_Gs_tone 27 rfl) rfl rfl (Nat.le_of_ble_eq_true rfl) ⟨rfl, rfl⟩ (Nat.le_of_ble_eq_true rfl) (Nat.le_of_ble_eq_true rfl)
set_option maxRecDepth 20000 in
theorem m_tone_4 (S : gGS) (hok : gsOK S) (t : Nat) (ht : t < 4) : gM K_Gs_tone { frames := 2, locals := 46, cells := 0, slots := 0 } [.ref 0, .int (nI t), .int 4] (cGs S) (gD (.inl (some (.int (dLa (sD S) t)))) (cGs S)) := by
  refine gM_of rfl rfl (Nat.le_of_ble_eq_true rfl) (fun sc => ?_)
  obtain ⟨hD, hs3, hs9, hr, hn, hT⟩ := id hok
  have hsz := hD.1
  refine gW_b D_Gs_tone 0 2 (pc' := 2) (l' := [(0, .ref 0), (1, .int (nI t)), (2, .int 4)]) (st' := [.int 4, .int (nI t)]) (h' := cGs S) (P := True) rfl trivial ?_
  refine gW_callS (m_requireIndex t 4 (by omega) (by omega)) lk_Gs_37 (gps 0 0 0 0) (gdec_at D_Gs_tone 2 rfl) (st := []) rfl rfl (gCut_seg (Nat.le_of_ble_eq_true rfl) (Nat.le_of_ble_eq_true rfl) rfl (by decide +kernel)) (Nat.le_of_ble_eq_true rfl) (Nat.le_of_ble_eq_true rfl) ⟨Nat.le_of_ble_eq_true rfl, Nat.le_of_ble_eq_true rfl⟩ ⟨Nat.le_of_ble_eq_true rfl, Nat.le_of_ble_eq_true rfl⟩ (gAft_s (Nat.le_of_ble_eq_true rfl) (Nat.le_of_ble_eq_true rfl) rfl rfl rfl rfl (h' := cGs S) (st' := []) (pc' := 5) (cs' := 0) (ss' := 0) rfl rfl rfl rfl rfl ?_)
  refine gW_b D_Gs_tone 3 1 (pc' := 6) (l' := [(0, .ref 0), (1, .int (nI t)), (2, .int 4)]) (st' := [.int 4]) (h' := cGs S) (P := True) rfl trivial ?_
  refine gW_tin S_Gs_tone_6 (tgt := 96) (by decide) (by decide) (off := 90) (by decide) rfl ?_
  refine gW_b D_Gs_tone 28 4 (pc' := 104) (l' := [(0, .ref 0), (1, .int (nI t)), (2, .int 4)]) (st' := [.int (nI t), .ref 9]) (h' := cGs S) (P := True) rfl trivial ?_
  refine gW_callS (m_valueAt 4 t (dLa (sD S)) (by omega) (by omega)) lk_Gs_48 (gps 9 1 0 0) (gdec_at D_Gs_tone 32 rfl) (st := []) rfl rfl (gCut_seg (Nat.le_of_ble_eq_true rfl) (Nat.le_of_ble_eq_true rfl) rfl (by decide +kernel)) (Nat.le_of_ble_eq_true rfl) (Nat.le_of_ble_eq_true rfl) ⟨Nat.le_of_ble_eq_true rfl, Nat.le_of_ble_eq_true rfl⟩ ⟨Nat.le_of_ble_eq_true rfl, Nat.le_of_ble_eq_true rfl⟩ (gAft_s (Nat.le_of_ble_eq_true rfl) (Nat.le_of_ble_eq_true rfl) rfl rfl rfl rfl (h' := cGs S) (st' := [.int ((dLa (sD S)) t)]) (pc' := 107) (cs' := 0) (ss' := 0) rfl rfl rfl rfl rfl ?_)
  exact gW_iret (gdec_at D_Gs_tone 33 rfl) rfl rfl (Nat.le_of_ble_eq_true rfl) ⟨rfl, rfl⟩ (Nat.le_of_ble_eq_true rfl) (Nat.le_of_ble_eq_true rfl)
set_option maxRecDepth 20000 in
theorem m_tone_5 (S : gGS) (hok : gsOK S) (t : Nat) (ht : t < 4) : gM K_Gs_tone { frames := 2, locals := 46, cells := 0, slots := 0 } [.ref 0, .int (nI t), .int 5] (cGs S) (gD (.inl (some (.int (dSw (sD S) t)))) (cGs S)) := by
  refine gM_of rfl rfl (Nat.le_of_ble_eq_true rfl) (fun sc => ?_)
  obtain ⟨hD, hs3, hs9, hr, hn, hT⟩ := id hok
  have hsz := hD.1
  refine gW_b D_Gs_tone 0 2 (pc' := 2) (l' := [(0, .ref 0), (1, .int (nI t)), (2, .int 5)]) (st' := [.int 4, .int (nI t)]) (h' := cGs S) (P := True) rfl trivial ?_
  refine gW_callS (m_requireIndex t 4 (by omega) (by omega)) lk_Gs_37 (gps 0 0 0 0) (gdec_at D_Gs_tone 2 rfl) (st := []) rfl rfl (gCut_seg (Nat.le_of_ble_eq_true rfl) (Nat.le_of_ble_eq_true rfl) rfl (by decide +kernel)) (Nat.le_of_ble_eq_true rfl) (Nat.le_of_ble_eq_true rfl) ⟨Nat.le_of_ble_eq_true rfl, Nat.le_of_ble_eq_true rfl⟩ ⟨Nat.le_of_ble_eq_true rfl, Nat.le_of_ble_eq_true rfl⟩ (gAft_s (Nat.le_of_ble_eq_true rfl) (Nat.le_of_ble_eq_true rfl) rfl rfl rfl rfl (h' := cGs S) (st' := []) (pc' := 5) (cs' := 0) (ss' := 0) rfl rfl rfl rfl rfl ?_)
  refine gW_b D_Gs_tone 3 1 (pc' := 6) (l' := [(0, .ref 0), (1, .int (nI t)), (2, .int 5)]) (st' := [.int 5]) (h' := cGs S) (P := True) rfl trivial ?_
  refine gW_tin S_Gs_tone_6 (tgt := 108) (by decide) (by decide) (off := 102) (by decide) rfl ?_
  refine gW_b D_Gs_tone 34 4 (pc' := 116) (l' := [(0, .ref 0), (1, .int (nI t)), (2, .int 5)]) (st' := [.int (nI t), .ref 10]) (h' := cGs S) (P := True) rfl trivial ?_
  refine gW_callS (m_valueAt 4 t (dSw (sD S)) (by omega) (by omega)) lk_Gs_48 (gps 10 1 0 0) (gdec_at D_Gs_tone 38 rfl) (st := []) rfl rfl (gCut_seg (Nat.le_of_ble_eq_true rfl) (Nat.le_of_ble_eq_true rfl) rfl (by decide +kernel)) (Nat.le_of_ble_eq_true rfl) (Nat.le_of_ble_eq_true rfl) ⟨Nat.le_of_ble_eq_true rfl, Nat.le_of_ble_eq_true rfl⟩ ⟨Nat.le_of_ble_eq_true rfl, Nat.le_of_ble_eq_true rfl⟩ (gAft_s (Nat.le_of_ble_eq_true rfl) (Nat.le_of_ble_eq_true rfl) rfl rfl rfl rfl (h' := cGs S) (st' := [.int ((dSw (sD S)) t)]) (pc' := 119) (cs' := 0) (ss' := 0) rfl rfl rfl rfl rfl ?_)
  exact gW_iret (gdec_at D_Gs_tone 39 rfl) rfl rfl (Nat.le_of_ble_eq_true rfl) ⟨rfl, rfl⟩ (Nat.le_of_ble_eq_true rfl) (Nat.le_of_ble_eq_true rfl)
set_option maxRecDepth 20000 in
theorem m_tone_6 (S : gGS) (hok : gsOK S) (t : Nat) (ht : t < 4) : gM K_Gs_tone { frames := 2, locals := 46, cells := 0, slots := 0 } [.ref 0, .int (nI t), .int 6] (cGs S) (gD (.inl (some (.int (wtc (dG (sD S)) (nI t) (dSz (sD S)))))) (cGs S)) := by
  refine gM_of rfl rfl (Nat.le_of_ble_eq_true rfl) (fun sc => ?_)
  obtain ⟨hD, hs3, hs9, hr, hn, hT⟩ := id hok
  have hsz := hD.1
  refine gW_b D_Gs_tone 0 2 (pc' := 2) (l' := [(0, .ref 0), (1, .int (nI t)), (2, .int 6)]) (st' := [.int 4, .int (nI t)]) (h' := cGs S) (P := True) rfl trivial ?_
  refine gW_callS (m_requireIndex t 4 (by omega) (by omega)) lk_Gs_37 (gps 0 0 0 0) (gdec_at D_Gs_tone 2 rfl) (st := []) rfl rfl (gCut_seg (Nat.le_of_ble_eq_true rfl) (Nat.le_of_ble_eq_true rfl) rfl (by decide +kernel)) (Nat.le_of_ble_eq_true rfl) (Nat.le_of_ble_eq_true rfl) ⟨Nat.le_of_ble_eq_true rfl, Nat.le_of_ble_eq_true rfl⟩ ⟨Nat.le_of_ble_eq_true rfl, Nat.le_of_ble_eq_true rfl⟩ (gAft_s (Nat.le_of_ble_eq_true rfl) (Nat.le_of_ble_eq_true rfl) rfl rfl rfl rfl (h' := cGs S) (st' := []) (pc' := 5) (cs' := 0) (ss' := 0) rfl rfl rfl rfl rfl ?_)
  refine gW_b D_Gs_tone 3 1 (pc' := 6) (l' := [(0, .ref 0), (1, .int (nI t)), (2, .int 6)]) (st' := [.int 6]) (h' := cGs S) (P := True) rfl trivial ?_
  refine gW_tin S_Gs_tone_6 (tgt := 120) (by decide) (by decide) (off := 114) (by decide) rfl ?_
  refine gW_b D_Gs_tone 40 4 (pc' := 128) (l' := [(0, .ref 0), (1, .int (nI t)), (2, .int 6)]) (st' := [.int (nI t), .ref 4]) (h' := cGs S) (P := True) rfl trivial ?_
  refine gW_callV (m_wantedOf (dG (sD S)) (dSz (sD S)) (dC (sD S)) (nI t) (by omega)) lk_Gs_204 (gps 4 2 0 0) (gdec_at D_Gs_tone 44 rfl) (st := []) rfl rfl (gCut_seg (Nat.le_of_ble_eq_true rfl) (Nat.le_of_ble_eq_true rfl) rfl (by decide +kernel)) (Nat.le_of_ble_eq_true rfl) rfl (by decide) rfl (Nat.le_of_ble_eq_true rfl) ⟨Nat.le_of_ble_eq_true rfl, Nat.le_of_ble_eq_true rfl⟩ ⟨Nat.le_of_ble_eq_true rfl, Nat.le_of_ble_eq_true rfl⟩ (gAft_s (Nat.le_of_ble_eq_true rfl) (Nat.le_of_ble_eq_true rfl) rfl rfl rfl rfl (h' := cGs S) (st' := [.int (wtc (dG (sD S)) (nI t) (dSz (sD S)))]) (pc' := 131) (cs' := 0) (ss' := 0) rfl rfl rfl rfl rfl ?_)
  exact gW_iret (gdec_at D_Gs_tone 45 rfl) rfl rfl (Nat.le_of_ble_eq_true rfl) ⟨rfl, rfl⟩ (Nat.le_of_ble_eq_true rfl) (Nat.le_of_ble_eq_true rfl)
set_option maxRecDepth 20000 in
theorem m_count_0 (S : gGS) (hok : gsOK S)  : gM K_Gs_count { frames := 2, locals := 45, cells := 0, slots := 0 } [.ref 0, .int 0] (cGs S) (gD (.inl (some (.int (dDy (sD S))))) (cGs S)) := by
  refine gM_of rfl rfl (Nat.le_of_ble_eq_true rfl) (fun sc => ?_)
  obtain ⟨hD, hs3, hs9, hr, hn, hT⟩ := id hok
  have hsz := hD.1
  refine gW_b D_Gs_count 0 1 (pc' := 1) (l' := [(0, .ref 0), (1, .int 0)]) (st' := [.int 0]) (h' := cGs S) (P := True) rfl trivial ?_
  refine gW_tin S_Gs_count_1 (tgt := 56) (by decide) (by decide) (off := 55) (by decide) rfl ?_
  refine gW_b D_Gs_count 1 3 (pc' := 63) (l' := [(0, .ref 0), (1, .int 0)]) (st' := [.int (dDy (sD S))]) (h' := cGs S) (P := True) rfl trivial ?_
  exact gW_iret (gdec_at D_Gs_count 4 rfl) rfl rfl (Nat.le_of_ble_eq_true rfl) ⟨rfl, rfl⟩ (Nat.le_of_ble_eq_true rfl) (Nat.le_of_ble_eq_true rfl)
set_option maxRecDepth 20000 in
theorem m_count_1 (S : gGS) (hok : gsOK S)  : gM K_Gs_count { frames := 2, locals := 45, cells := 0, slots := 0 } [.ref 0, .int 1] (cGs S) (gD (.inl (some (.int (nI (dSz (sD S)))))) (cGs S)) := by
  refine gM_of rfl rfl (Nat.le_of_ble_eq_true rfl) (fun sc => ?_)
  obtain ⟨hD, hs3, hs9, hr, hn, hT⟩ := id hok
  have hsz := hD.1
  refine gW_b D_Gs_count 0 1 (pc' := 1) (l' := [(0, .ref 0), (1, .int 1)]) (st' := [.int 1]) (h' := cGs S) (P := True) rfl trivial ?_
  refine gW_tin S_Gs_count_1 (tgt := 64) (by decide) (by decide) (off := 63) (by decide) rfl ?_
  refine gW_b D_Gs_count 5 4 (pc' := 74) (l' := [(0, .ref 0), (1, .int 1)]) (st' := [.int (nI (dSz (sD S)))]) (h' := cGs S) (P := True) rfl trivial ?_
  exact gW_iret (gdec_at D_Gs_count 9 rfl) rfl rfl (Nat.le_of_ble_eq_true rfl) ⟨rfl, rfl⟩ (Nat.le_of_ble_eq_true rfl) (Nat.le_of_ble_eq_true rfl)
set_option maxRecDepth 20000 in
theorem m_count_2 (S : gGS) (hok : gsOK S)  : gM K_Gs_count { frames := 2, locals := 45, cells := 0, slots := 0 } [.ref 0, .int 2] (cGs S) (gD (.inl (some (.int (dDn (sD S))))) (cGs S)) := by
  refine gM_of rfl rfl (Nat.le_of_ble_eq_true rfl) (fun sc => ?_)
  obtain ⟨hD, hs3, hs9, hr, hn, hT⟩ := id hok
  have hsz := hD.1
  refine gW_b D_Gs_count 0 1 (pc' := 1) (l' := [(0, .ref 0), (1, .int 2)]) (st' := [.int 2]) (h' := cGs S) (P := True) rfl trivial ?_
  refine gW_tin S_Gs_count_1 (tgt := 75) (by decide) (by decide) (off := 74) (by decide) rfl ?_
  refine gW_b D_Gs_count 10 3 (pc' := 82) (l' := [(0, .ref 0), (1, .int 2)]) (st' := [.int (dDn (sD S))]) (h' := cGs S) (P := True) rfl trivial ?_
  exact gW_iret (gdec_at D_Gs_count 13 rfl) rfl rfl (Nat.le_of_ble_eq_true rfl) ⟨rfl, rfl⟩ (Nat.le_of_ble_eq_true rfl) (Nat.le_of_ble_eq_true rfl)
set_option maxRecDepth 20000 in
theorem m_count_3 (S : gGS) (hok : gsOK S)  : gM K_Gs_count { frames := 2, locals := 45, cells := 0, slots := 0 } [.ref 0, .int 3] (cGs S) (gD (.inl (some (.int (dLt (sD S))))) (cGs S)) := by
  refine gM_of rfl rfl (Nat.le_of_ble_eq_true rfl) (fun sc => ?_)
  obtain ⟨hD, hs3, hs9, hr, hn, hT⟩ := id hok
  have hsz := hD.1
  refine gW_b D_Gs_count 0 1 (pc' := 1) (l' := [(0, .ref 0), (1, .int 3)]) (st' := [.int 3]) (h' := cGs S) (P := True) rfl trivial ?_
  refine gW_tin S_Gs_count_1 (tgt := 83) (by decide) (by decide) (off := 82) (by decide) rfl ?_
  refine gW_b D_Gs_count 14 3 (pc' := 90) (l' := [(0, .ref 0), (1, .int 3)]) (st' := [.int (dLt (sD S))]) (h' := cGs S) (P := True) rfl trivial ?_
  exact gW_iret (gdec_at D_Gs_count 17 rfl) rfl rfl (Nat.le_of_ble_eq_true rfl) ⟨rfl, rfl⟩ (Nat.le_of_ble_eq_true rfl) (Nat.le_of_ble_eq_true rfl)
set_option maxRecDepth 20000 in
theorem m_count_4 (S : gGS) (hok : gsOK S)  : gM K_Gs_count { frames := 2, locals := 45, cells := 0, slots := 0 } [.ref 0, .int 4] (cGs S) (gD (.inl (some (.int (dLd (sD S))))) (cGs S)) := by
  refine gM_of rfl rfl (Nat.le_of_ble_eq_true rfl) (fun sc => ?_)
  obtain ⟨hD, hs3, hs9, hr, hn, hT⟩ := id hok
  have hsz := hD.1
  refine gW_b D_Gs_count 0 1 (pc' := 1) (l' := [(0, .ref 0), (1, .int 4)]) (st' := [.int 4]) (h' := cGs S) (P := True) rfl trivial ?_
  refine gW_tin S_Gs_count_1 (tgt := 91) (by decide) (by decide) (off := 90) (by decide) rfl ?_
  refine gW_b D_Gs_count 18 3 (pc' := 98) (l' := [(0, .ref 0), (1, .int 4)]) (st' := [.int (dLd (sD S))]) (h' := cGs S) (P := True) rfl trivial ?_
  exact gW_iret (gdec_at D_Gs_count 21 rfl) rfl rfl (Nat.le_of_ble_eq_true rfl) ⟨rfl, rfl⟩ (Nat.le_of_ble_eq_true rfl) (Nat.le_of_ble_eq_true rfl)
set_option maxRecDepth 20000 in
theorem m_count_5 (S : gGS) (hok : gsOK S)  : gM K_Gs_count { frames := 2, locals := 45, cells := 0, slots := 0 } [.ref 0, .int 5] (cGs S) (gD (.inl (some (.int (nI (mxc (dTr (sD S)) 6))))) (cGs S)) := by
  refine gM_of rfl rfl (Nat.le_of_ble_eq_true rfl) (fun sc => ?_)
  obtain ⟨hD, hs3, hs9, hr, hn, hT⟩ := id hok
  have hsz := hD.1
  refine gW_b D_Gs_count 0 1 (pc' := 1) (l' := [(0, .ref 0), (1, .int 5)]) (st' := [.int 5]) (h' := cGs S) (P := True) rfl trivial ?_
  refine gW_tin S_Gs_count_1 (tgt := 99) (by decide) (by decide) (off := 98) (by decide) rfl ?_
  refine gW_b D_Gs_count 22 3 (pc' := 106) (l' := [(0, .ref 0), (1, .int 5)]) (st' := [.ref 2]) (h' := cGs S) (P := True) rfl trivial ?_
  refine gW_callV (m_mixedTrays (dTr (sD S))) lk_Gs_218 (gps 2 2 0 0) (gdec_at D_Gs_count 25 rfl) (st := []) rfl rfl (gCut_seg (Nat.le_of_ble_eq_true rfl) (Nat.le_of_ble_eq_true rfl) rfl (by decide +kernel)) (Nat.le_of_ble_eq_true rfl) rfl (by decide) rfl (Nat.le_of_ble_eq_true rfl) ⟨Nat.le_of_ble_eq_true rfl, Nat.le_of_ble_eq_true rfl⟩ ⟨Nat.le_of_ble_eq_true rfl, Nat.le_of_ble_eq_true rfl⟩ (gAft_s (Nat.le_of_ble_eq_true rfl) (Nat.le_of_ble_eq_true rfl) rfl rfl rfl rfl (h' := cGs S) (st' := [.int (nI (mxc (dTr (sD S)) 6))]) (pc' := 109) (cs' := 0) (ss' := 0) rfl rfl rfl rfl rfl ?_)
  exact gW_iret (gdec_at D_Gs_count 26 rfl) rfl rfl (Nat.le_of_ble_eq_true rfl) ⟨rfl, rfl⟩ (Nat.le_of_ble_eq_true rfl) (Nat.le_of_ble_eq_true rfl)
set_option maxRecDepth 20000 in
theorem m_count_6 (S : gGS) (hok : gsOK S)  : gM K_Gs_count { frames := 2, locals := 45, cells := 0, slots := 0 } [.ref 0, .int 6] (cGs S) (gD (.inl (some (.int (nI (emc (dTr (sD S)) 6))))) (cGs S)) := by
  refine gM_of rfl rfl (Nat.le_of_ble_eq_true rfl) (fun sc => ?_)
  obtain ⟨hD, hs3, hs9, hr, hn, hT⟩ := id hok
  have hsz := hD.1
  refine gW_b D_Gs_count 0 1 (pc' := 1) (l' := [(0, .ref 0), (1, .int 6)]) (st' := [.int 6]) (h' := cGs S) (P := True) rfl trivial ?_
  refine gW_tin S_Gs_count_1 (tgt := 110) (by decide) (by decide) (off := 109) (by decide) rfl ?_
  refine gW_b D_Gs_count 27 3 (pc' := 117) (l' := [(0, .ref 0), (1, .int 6)]) (st' := [.ref 2]) (h' := cGs S) (P := True) rfl trivial ?_
  refine gW_callV (m_emptyTrays (dTr (sD S))) lk_Gs_221 (gps 2 2 0 0) (gdec_at D_Gs_count 30 rfl) (st := []) rfl rfl (gCut_seg (Nat.le_of_ble_eq_true rfl) (Nat.le_of_ble_eq_true rfl) rfl (by decide +kernel)) (Nat.le_of_ble_eq_true rfl) rfl (by decide) rfl (Nat.le_of_ble_eq_true rfl) ⟨Nat.le_of_ble_eq_true rfl, Nat.le_of_ble_eq_true rfl⟩ ⟨Nat.le_of_ble_eq_true rfl, Nat.le_of_ble_eq_true rfl⟩ (gAft_s (Nat.le_of_ble_eq_true rfl) (Nat.le_of_ble_eq_true rfl) rfl rfl rfl rfl (h' := cGs S) (st' := [.int (nI (emc (dTr (sD S)) 6))]) (pc' := 120) (cs' := 0) (ss' := 0) rfl rfl rfl rfl rfl ?_)
  exact gW_iret (gdec_at D_Gs_count 31 rfl) rfl rfl (Nat.le_of_ble_eq_true rfl) ⟨rfl, rfl⟩ (Nat.le_of_ble_eq_true rfl) (Nat.le_of_ble_eq_true rfl)
set_option maxRecDepth 20000 in
theorem m_count_7 (S : gGS) (hok : gsOK S)  : gM K_Gs_count { frames := 2, locals := 45, cells := 0, slots := 0 } [.ref 0, .int 7] (cGs S) (gD (.inl (some (.int (sum4 (dSw (sD S)))))) (cGs S)) := by
  refine gM_of rfl rfl (Nat.le_of_ble_eq_true rfl) (fun sc => ?_)
  obtain ⟨hD, hs3, hs9, hr, hn, hT⟩ := id hok
  have hsz := hD.1
  refine gW_b D_Gs_count 0 1 (pc' := 1) (l' := [(0, .ref 0), (1, .int 7)]) (st' := [.int 7]) (h' := cGs S) (P := True) rfl trivial ?_
  refine gW_tin S_Gs_count_1 (tgt := 121) (by decide) (by decide) (off := 120) (by decide) rfl ?_
  refine gW_b D_Gs_count 32 3 (pc' := 128) (l' := [(0, .ref 0), (1, .int 7)]) (st' := [.ref 10]) (h' := cGs S) (P := True) rfl trivial ?_
  refine gW_callS (m_sumOf (dSw (sD S))) lk_Gs_126 (gps 10 1 0 0) (gdec_at D_Gs_count 35 rfl) (st := []) rfl rfl (gCut_seg (Nat.le_of_ble_eq_true rfl) (Nat.le_of_ble_eq_true rfl) rfl (by decide +kernel)) (Nat.le_of_ble_eq_true rfl) (Nat.le_of_ble_eq_true rfl) ⟨Nat.le_of_ble_eq_true rfl, Nat.le_of_ble_eq_true rfl⟩ ⟨Nat.le_of_ble_eq_true rfl, Nat.le_of_ble_eq_true rfl⟩ (gAft_s (Nat.le_of_ble_eq_true rfl) (Nat.le_of_ble_eq_true rfl) rfl rfl rfl rfl (h' := cGs S) (st' := [.int (sum4 (dSw (sD S)))]) (pc' := 131) (cs' := 0) (ss' := 0) rfl rfl rfl rfl rfl ?_)
  exact gW_iret (gdec_at D_Gs_count 36 rfl) rfl rfl (Nat.le_of_ble_eq_true rfl) ⟨rfl, rfl⟩ (Nat.le_of_ble_eq_true rfl) (Nat.le_of_ble_eq_true rfl)
set_option maxRecDepth 20000 in
theorem m_count_8 (S : gGS) (hok : gsOK S)  : gM K_Gs_count { frames := 2, locals := 45, cells := 0, slots := 0 } [.ref 0, .int 8] (cGs S) (gD (.inl (some (.int (dSo (sD S))))) (cGs S)) := by
  refine gM_of rfl rfl (Nat.le_of_ble_eq_true rfl) (fun sc => ?_)
  obtain ⟨hD, hs3, hs9, hr, hn, hT⟩ := id hok
  have hsz := hD.1
  refine gW_b D_Gs_count 0 1 (pc' := 1) (l' := [(0, .ref 0), (1, .int 8)]) (st' := [.int 8]) (h' := cGs S) (P := True) rfl trivial ?_
  refine gW_tin S_Gs_count_1 (tgt := 132) (by decide) (by decide) (off := 131) (by decide) rfl ?_
  refine gW_b D_Gs_count 37 3 (pc' := 139) (l' := [(0, .ref 0), (1, .int 8)]) (st' := [.int (dSo (sD S))]) (h' := cGs S) (P := True) rfl trivial ?_
  exact gW_iret (gdec_at D_Gs_count 40 rfl) rfl rfl (Nat.le_of_ble_eq_true rfl) ⟨rfl, rfl⟩ (Nat.le_of_ble_eq_true rfl) (Nat.le_of_ble_eq_true rfl)
set_option maxRecDepth 20000 in
theorem m_count_9 (S : gGS) (hok : gsOK S)  : gM K_Gs_count { frames := 2, locals := 45, cells := 0, slots := 0 } [.ref 0, .int 9] (cGs S) (gD (.inl (some (.int (nI (sN S))))) (cGs S)) := by
  refine gM_of rfl rfl (Nat.le_of_ble_eq_true rfl) (fun sc => ?_)
  obtain ⟨hD, hs3, hs9, hr, hn, hT⟩ := id hok
  have hsz := hD.1
  refine gW_b D_Gs_count 0 1 (pc' := 1) (l' := [(0, .ref 0), (1, .int 9)]) (st' := [.int 9]) (h' := cGs S) (P := True) rfl trivial ?_
  refine gW_tin S_Gs_count_1 (tgt := 140) (by decide) (by decide) (off := 139) (by decide) rfl ?_
  refine gW_b D_Gs_count 41 3 (pc' := 147) (l' := [(0, .ref 0), (1, .int 9)]) (st' := [.int (nI (sN S))]) (h' := cGs S) (P := True) rfl trivial ?_
  exact gW_iret (gdec_at D_Gs_count 44 rfl) rfl rfl (Nat.le_of_ble_eq_true rfl) ⟨rfl, rfl⟩ (Nat.le_of_ble_eq_true rfl) (Nat.le_of_ble_eq_true rfl)
set_option maxRecDepth 20000 in
theorem m_missing (S : gGS) (hok : gsOK S) (t : Nat) (ht : t < 4) : gM K_Gs_missing { frames := 3, locals := 70, cells := 0, slots := 0 } [.ref 0, .int (nI t)] (cGs S) (gD (.inl (some (.int (msI (sD S) t)))) (cGs S)) := by
  refine gM_of rfl rfl (Nat.le_of_ble_eq_true rfl) (fun sc => ?_)
  obtain ⟨hD, hs3, hs9, hr, hn, hT⟩ := id hok
  have hsz := hD.1
  refine gW_b D_Gs_missing 0 2 (pc' := 2) (l' := [(0, .ref 0), (1, .int (nI t))]) (st' := [.int 4, .int (nI t)]) (h' := cGs S) (P := True) rfl trivial ?_
  refine gW_callS (m_requireIndex t 4 (by omega) (by omega)) lk_Gs_37 (gps 0 0 0 0) (gdec_at D_Gs_missing 2 rfl) (st := []) rfl rfl (gCut_seg (Nat.le_of_ble_eq_true rfl) (Nat.le_of_ble_eq_true rfl) rfl (by decide +kernel)) (Nat.le_of_ble_eq_true rfl) (Nat.le_of_ble_eq_true rfl) ⟨Nat.le_of_ble_eq_true rfl, Nat.le_of_ble_eq_true rfl⟩ ⟨Nat.le_of_ble_eq_true rfl, Nat.le_of_ble_eq_true rfl⟩ (gAft_s (Nat.le_of_ble_eq_true rfl) (Nat.le_of_ble_eq_true rfl) rfl rfl rfl rfl (h' := cGs S) (st' := []) (pc' := 5) (cs' := 0) (ss' := 0) rfl rfl rfl rfl rfl ?_)
  refine gW_b D_Gs_missing 3 3 (pc' := 10) (l' := [(0, .ref 0), (1, .int (nI t))]) (st' := [.int (nI t), .ref 1]) (h' := cGs S) (P := True) rfl trivial ?_
  refine gW_callV (m_missingSheets (sD S) t (by omega) (by assumption)) lk_Gs_235 (gps 1 10 0 0) (gdec_at D_Gs_missing 6 rfl) (st := []) rfl rfl (gCut_seg (Nat.le_of_ble_eq_true rfl) (Nat.le_of_ble_eq_true rfl) rfl (by decide +kernel)) (Nat.le_of_ble_eq_true rfl) rfl (by decide) rfl (Nat.le_of_ble_eq_true rfl) ⟨Nat.le_of_ble_eq_true rfl, Nat.le_of_ble_eq_true rfl⟩ ⟨Nat.le_of_ble_eq_true rfl, Nat.le_of_ble_eq_true rfl⟩ (gAft_s (Nat.le_of_ble_eq_true rfl) (Nat.le_of_ble_eq_true rfl) rfl rfl rfl rfl (h' := cGs S) (st' := [.int (msI (sD S) t)]) (pc' := 13) (cs' := 0) (ss' := 0) rfl rfl rfl rfl rfl ?_)
  exact gW_iret (gdec_at D_Gs_missing 7 rfl) rfl rfl (Nat.le_of_ble_eq_true rfl) ⟨rfl, rfl⟩ (Nat.le_of_ble_eq_true rfl) (Nat.le_of_ble_eq_true rfl)
set_option maxRecDepth 20000 in
theorem m_requireSection (S : gGS) (hok : gsOK S) (x : Int32) (h : ¬ plc (dG (sD S)) x (dSz (sD S)) 0 = -1) : gM K_Gs_requireSection { frames := 2, locals := 45, cells := 0, slots := 0 } [.ref 0, .int x] (cGs S) (gD (.inl (some (.int (plc (dG (sD S)) x (dSz (sD S)) 0)))) (cGs S)) := by
  refine gM_of rfl rfl (Nat.le_of_ble_eq_true rfl) (fun sc => ?_)
  obtain ⟨hD, hs3, hs9, hr, hn, hT⟩ := id hok
  have hsz := hD.1
  refine gW_b D_Gs_requireSection 0 4 (pc' := 8) (l' := [(0, .ref 0), (1, .int x)]) (st' := [.int x, .ref 4]) (h' := cGs S) (P := True) rfl trivial ?_
  refine gW_callV (m_placeOf (dG (sD S)) (dSz (sD S)) (dC (sD S)) x (by omega)) lk_Gs_305 (gps 4 2 0 0) (gdec_at D_Gs_requireSection 4 rfl) (st := []) rfl rfl (gCut_seg (Nat.le_of_ble_eq_true rfl) (Nat.le_of_ble_eq_true rfl) rfl (by decide +kernel)) (Nat.le_of_ble_eq_true rfl) rfl (by decide) rfl (Nat.le_of_ble_eq_true rfl) ⟨Nat.le_of_ble_eq_true rfl, Nat.le_of_ble_eq_true rfl⟩ ⟨Nat.le_of_ble_eq_true rfl, Nat.le_of_ble_eq_true rfl⟩ (gAft_s (Nat.le_of_ble_eq_true rfl) (Nat.le_of_ble_eq_true rfl) rfl rfl rfl rfl (h' := cGs S) (st' := [.int (plc (dG (sD S)) x (dSz (sD S)) 0)]) (pc' := 11) (cs' := 0) (ss' := 0) rfl rfl rfl rfl rfl ?_)
  refine gW_b D_Gs_requireSection 5 3 (pc' := 14) (l' := [(0, .ref 0), (1, .int x), (2, .int (plc (dG (sD S)) x (dSz (sD S)) 0))]) (st' := [.int (-1), .int (plc (dG (sD S)) x (dSz (sD S)) 0)]) (h' := cGs S) (P := True) rfl trivial ?_
  refine gW_ic_ne (gdec_at D_Gs_requireSection 8 rfl) (tgt := 28) rfl (fun _ => ?_) (fun cq => absurd cq h)
  refine gW_b D_Gs_requireSection 14 1 (pc' := 29) (l' := [(0, .ref 0), (1, .int x), (2, .int (plc (dG (sD S)) x (dSz (sD S)) 0))]) (st' := [.int (plc (dG (sD S)) x (dSz (sD S)) 0)]) (h' := cGs S) (P := True) rfl trivial ?_
  exact gW_iret (gdec_at D_Gs_requireSection 15 rfl) rfl rfl (Nat.le_of_ble_eq_true rfl) ⟨rfl, rfl⟩ (Nat.le_of_ble_eq_true rfl) (Nat.le_of_ble_eq_true rfl)
