/-! GoldSheets: when sections are done, the buffer's sections. Printed by wip/whole/meths9.py -/
def fil (f : Nat → Int32) : Nat → Nat → Int32
  | 0 => f
  | i + 1 => upd (fil f i) i (-1)
/-- the first i places: those newly done are noted -/
def ndR (D T : gDom) (v : Int32) (f : Nat → Int32) : Nat → Nat → Int32
  | 0 => f
  | i + 1 => if ndR D T v f i i = -1 ∧ plc (dG T) (dG D (i * 5 + 0)) (dSz T) 0 = -1 then upd (ndR D T v f i) i v else ndR D T v f i
def ndS (S : gGS) (v : Int32) : gGS := setDb S (ndR (sD S) (sTr S) v (sDb S) (dSz (sD S)))
def fsR : Nat → Nat → gGS → gGS
  | 0, _, S => S
  | n + 1, i, S => if 0 < dSz (sTr S) then fsR n (i + 1) (ndS (setTrl S (pdD (sTr S))) (nI i)) else S
def fsS (S : gGS) : gGS := fsR 60 1 (setTrl (setDb S (fil (sDb S) 10)) (sD S))
theorem fsR_eq : ∀ (n i : Nat) (S : gGS), sD (fsR n i S) = sD S ∧ sR (fsR n i S) = sR S ∧ sN (fsR n i S) = sN S ∧ sDs (fsR n i S) = sDs S ∧ sT (fsR n i S) = sT S
  | 0, _, S => ⟨rfl, rfl, rfl, rfl, rfl⟩
  | n + 1, i, S => by
    unfold fsR
    split
    · exact fsR_eq n (i + 1) _
    · exact ⟨rfl, rfl, rfl, rfl, rfl⟩
theorem fsS_eq (S : gGS) : sD (fsS S) = sD S ∧ sR (fsS S) = sR S ∧ sN (fsS S) = sN S ∧ sDs (fsS S) = sDs S ∧ sT (fsS S) = sT S := fsR_eq 60 1 _
theorem gsOK_of {S S' : gGS} (h : gsOK S) (e1 : sD S' = sD S) (e2 : sR S' = sR S) (e3 : sN S' = sN S) (e4 : sT S' = sT S) : gsOK S' := by
  obtain ⟨h1, h2, h3, h4, h5, h6⟩ := h
  unfold gsOK
  rw [e1, e2, e3, e4]
  exact ⟨h1, h2, h3, h4, h5, h6⟩
theorem fsS_ok {S : gGS} (h : gsOK S) : gsOK (fsS S) := gsOK_of h (fsS_eq S).1 (fsS_eq S).2.1 (fsS_eq S).2.2.1 (fsS_eq S).2.2.2.2
theorem ndS_ok {S : gGS} (h : gsOK S) (T : gDom) (v : Int32) : gsOK (ndS (setTrl S T) v) := h
set_option maxRecDepth 20000 in
theorem l_noteDone (S : gGS) (v : Int32) (hsz : dSz (sD S) ≤ 10) (hz : dSz (sTr S) ≤ 10) {sc : Nat × (Nat → Int32)} {n0 : Nat} {E : gO → gH → Prop} (kk : gW K_Gs_noteDone sc { frames := 2, locals := 45, cells := 0, slots := 0 } n0 E 0 0 76 [(0, .ref 0), (1, .int v), (2, .int (nI (dSz (sD S))))] [] (cGs (sD S, sTr S, sR S, sN S, sDs S, sT S, ndR (sD S) (sTr S) v (sDb S) (dSz (sD S))))) : ∀ (n i : Nat), i + n = dSz (sD S) → gW K_Gs_noteDone sc { frames := 2, locals := 45, cells := 0, slots := 0 } n0 E 0 0 2 [(0, .ref 0), (1, .int v), (2, .int (nI i))] [] (cGs (sD S, sTr S, sR S, sN S, sDs S, sT S, ndR (sD S) (sTr S) v (sDb S) i)) := by
  intro n
  induction n with
  | zero =>
    intro i hi
    obtain rfl : dSz (sD S) = i := by omega
    refine gW_b D_Gs_noteDone 2 5 (pc' := 13) (l' := [(0, .ref 0), (1, .int v), (2, .int (nI (dSz (sD S))))]) (st' := [.int (nI (dSz (sD S))), .int (nI (dSz (sD S)))]) (h' := cGs (sD S, sTr S, sR S, sN S, sDs S, sT S, ndR (sD S) (sTr S) v (sDb S) (dSz (sD S)))) (P := True) rfl trivial ?_
    refine gW_ic_ge (gdec_at D_Gs_noteDone 7 rfl) (tgt := 76) rfl (fun _ => ?_) (fun cq => absurd ((gle (rfl : nI (dSz (sD S)) = nI (dSz (sD S))) (rfl : nI (dSz (sD S)) = nI (dSz (sD S))) (by omega) (by omega)).mpr (by omega)) cq)
    exact kk
  | succ n ih =>
    intro i hi
    refine gW_b D_Gs_noteDone 2 5 (pc' := 13) (l' := [(0, .ref 0), (1, .int v), (2, .int (nI i))]) (st' := [.int (nI (dSz (sD S))), .int (nI i)]) (h' := cGs (sD S, sTr S, sR S, sN S, sDs S, sT S, ndR (sD S) (sTr S) v (sDb S) i)) (P := True) rfl trivial ?_
    refine gW_ic_ge (gdec_at D_Gs_noteDone 7 rfl) (tgt := 76) rfl (fun cq => absurd cq (mt (gle (rfl : nI (dSz (sD S)) = nI (dSz (sD S))) (rfl : nI i = nI i) (by omega) (by omega)).mp (by omega))) (fun _ => ?_)
    refine gW_b D_Gs_noteDone 8 4 (pc' := 22) (l' := [(0, .ref 0), (1, .int v), (2, .int (nI i))]) (st' := [.int 10, .int (nI i)]) (h' := cGs (sD S, sTr S, sR S, sN S, sDs S, sT S, ndR (sD S) (sTr S) v (sDb S) i)) (P := True) rfl trivial ?_
    refine gW_ic_ge (gdec_at D_Gs_noteDone 12 rfl) (tgt := 76) rfl (fun cq => absurd cq (mt (gle (gk 10) (rfl : nI i = nI i) (by omega) (by omega)).mp (by omega))) (fun _ => ?_)
    refine gW_b D_Gs_noteDone 13 5 (pc' := 34) (l' := [(0, .ref 0), (1, .int v), (2, .int (nI i))]) (st' := [.int 0, .int (nI i), .ref 4]) (h' := cGs (sD S, sTr S, sR S, sN S, sDs S, sT S, ndR (sD S) (sTr S) v (sDb S) i)) (P := True) rfl trivial ?_
    refine gW_callV (m_valueOf (dG (sD S)) (dSz (sD S)) (dC (sD S)) i 0 (by omega) (by omega) (by omega)) lk_Gs_189 (gps 4 2 0 0) (gdec_at D_Gs_noteDone 18 rfl) (st := []) rfl rfl (gCut_seg (Nat.le_of_ble_eq_true rfl) (Nat.le_of_ble_eq_true rfl) rfl (by decide +kernel)) (Nat.le_of_ble_eq_true rfl) rfl (by decide) rfl (Nat.le_of_ble_eq_true rfl) ⟨Nat.le_of_ble_eq_true rfl, Nat.le_of_ble_eq_true rfl⟩ ⟨Nat.le_of_ble_eq_true rfl, Nat.le_of_ble_eq_true rfl⟩ (gAft_s (Nat.le_of_ble_eq_true rfl) (Nat.le_of_ble_eq_true rfl) rfl rfl rfl rfl (h' := cGs (sD S, sTr S, sR S, sN S, sDs S, sT S, ndR (sD S) (sTr S) v (sDb S) i)) (st' := [.int ((dG (sD S)) (i * 5 + 0))]) (pc' := 37) (cs' := 0) (ss' := 0) rfl rfl rfl rfl rfl ?_)
    refine gW_b D_Gs_noteDone 19 6 (pc' := 45) (l' := [(0, .ref 0), (1, .int v), (2, .int (nI i)), (3, .int ((dG (sD S)) (i * 5 + 0)))]) (st' := [.int (-1), .int ((ndR (sD S) (sTr S) v (sDb S) i) ((nI i).toNatClampNeg))]) (h' := cGs (sD S, sTr S, sR S, sN S, sDs S, sT S, ndR (sD S) (sTr S) v (sDb S) i)) (P := vp_in (nI i) 10 ∧ True) rfl ⟨(gvin (rfl : nI i = nI i) (by omega) (by omega)), trivial⟩ ?_
    rw [show (nI i).toNatClampNeg = i from gclp (rfl : nI i = nI i) (by omega)]
    refine gW_ic_ne (gdec_at D_Gs_noteDone 25 rfl) (tgt := 70) rfl (fun c => ?_) (fun c => ?_)
    · skip
      refine gW_b D_Gs_noteDone 38 2 (pc' := 2) (l' := [(0, .ref 0), (1, .int v), (2, .int ((nI i) + 1)), (3, .int ((dG (sD S)) (i * 5 + 0)))]) (st' := []) (h' := cGs (sD S, sTr S, sR S, sN S, sDs S, sT S, ndR (sD S) (sTr S) v (sDb S) i)) (P := True) rfl trivial ?_
      refine gW_l [0, 1, 2] (l' := [(0, .ref 0), (1, .int v), (2, .int ((nI i) + 1))]) rfl ?_
      rw [show ((nI i) + 1 : Int32) = nI (i + 1) from (gadd (rfl : nI i = nI i) (gk 1))]
      rw [show ndR (sD S) (sTr S) v (sDb S) i = ndR (sD S) (sTr S) v (sDb S) (i + 1) from (if_neg (fun q => c q.1)).symm]
      exact ih (i + 1) (by omega)
    · skip
      refine gW_b D_Gs_noteDone 26 4 (pc' := 56) (l' := [(0, .ref 0), (1, .int v), (2, .int (nI i)), (3, .int ((dG (sD S)) (i * 5 + 0)))]) (st' := [.int ((dG (sD S)) (i * 5 + 0)), .ref 14]) (h' := cGs (sD S, sTr S, sR S, sN S, sDs S, sT S, ndR (sD S) (sTr S) v (sDb S) i)) (P := True) rfl trivial ?_
      refine gW_callV (m_placeOf (dG (sTr S)) (dSz (sTr S)) (dC (sTr S)) ((dG (sD S)) (i * 5 + 0)) (by omega)) lk_Gs_305 (gps 14 2 0 0) (gdec_at D_Gs_noteDone 30 rfl) (st := []) rfl rfl (gCut_seg (Nat.le_of_ble_eq_true rfl) (Nat.le_of_ble_eq_true rfl) rfl (by decide +kernel)) (Nat.le_of_ble_eq_true rfl) rfl (by decide) rfl (Nat.le_of_ble_eq_true rfl) ⟨Nat.le_of_ble_eq_true rfl, Nat.le_of_ble_eq_true rfl⟩ ⟨Nat.le_of_ble_eq_true rfl, Nat.le_of_ble_eq_true rfl⟩ (gAft_s (Nat.le_of_ble_eq_true rfl) (Nat.le_of_ble_eq_true rfl) rfl rfl rfl rfl (h' := cGs (sD S, sTr S, sR S, sN S, sDs S, sT S, ndR (sD S) (sTr S) v (sDb S) i)) (st' := [.int (plc (dG (sTr S)) ((dG (sD S)) (i * 5 + 0)) (dSz (sTr S)) 0)]) (pc' := 59) (cs' := 0) (ss' := 0) rfl rfl rfl rfl rfl ?_)
      refine gW_b D_Gs_noteDone 31 1 (pc' := 60) (l' := [(0, .ref 0), (1, .int v), (2, .int (nI i)), (3, .int ((dG (sD S)) (i * 5 + 0)))]) (st' := [.int (-1), .int (plc (dG (sTr S)) ((dG (sD S)) (i * 5 + 0)) (dSz (sTr S)) 0)]) (h' := cGs (sD S, sTr S, sR S, sN S, sDs S, sT S, ndR (sD S) (sTr S) v (sDb S) i)) (P := True) rfl trivial ?_
      refine gW_ic_ne (gdec_at D_Gs_noteDone 32 rfl) (tgt := 70) rfl (fun e => ?_) (fun e => ?_)
      · skip
        refine gW_b D_Gs_noteDone 38 2 (pc' := 2) (l' := [(0, .ref 0), (1, .int v), (2, .int ((nI i) + 1)), (3, .int ((dG (sD S)) (i * 5 + 0)))]) (st' := []) (h' := cGs (sD S, sTr S, sR S, sN S, sDs S, sT S, ndR (sD S) (sTr S) v (sDb S) i)) (P := True) rfl trivial ?_
        refine gW_l [0, 1, 2] (l' := [(0, .ref 0), (1, .int v), (2, .int ((nI i) + 1))]) rfl ?_
        rw [show ((nI i) + 1 : Int32) = nI (i + 1) from (gadd (rfl : nI i = nI i) (gk 1))]
        rw [show ndR (sD S) (sTr S) v (sDb S) i = ndR (sD S) (sTr S) v (sDb S) (i + 1) from (if_neg (fun q => e q.2)).symm]
        exact ih (i + 1) (by omega)
      · skip
        refine gW_b D_Gs_noteDone 33 7 (pc' := 2) (l' := [(0, .ref 0), (1, .int v), (2, .int ((nI i) + 1)), (3, .int ((dG (sD S)) (i * 5 + 0)))]) (st' := []) (h' := cGs (sD S, sTr S, sR S, sN S, sDs S, sT S, upd (ndR (sD S) (sTr S) v (sDb S) i) ((nI i).toNatClampNeg) v)) (P := vp_in (nI i) 10 ∧ True) rfl ⟨(gvin (rfl : nI i = nI i) (by omega) (by omega)), trivial⟩ ?_
        rw [show (nI i).toNatClampNeg = i from gclp (rfl : nI i = nI i) (by omega)]
        refine gW_l [0, 1, 2] (l' := [(0, .ref 0), (1, .int v), (2, .int ((nI i) + 1))]) rfl ?_
        rw [show ((nI i) + 1 : Int32) = nI (i + 1) from (gadd (rfl : nI i = nI i) (gk 1))]
        rw [show upd (ndR (sD S) (sTr S) v (sDb S) i) i v = ndR (sD S) (sTr S) v (sDb S) (i + 1) from (if_pos ⟨c, e⟩).symm]
        exact ih (i + 1) (by omega)
set_option maxRecDepth 20000 in
theorem m_noteDone (S : gGS) (hok : gsOK S) (v : Int32) (hz : dSz (sTr S) ≤ 10) : gM K_Gs_noteDone { frames := 2, locals := 45, cells := 0, slots := 0 } [.ref 0, .int v] (cGs S) (gD (.inl none) (cGs (ndS S v))) := by
  refine gM_of rfl rfl (Nat.le_of_ble_eq_true rfl) (fun sc => ?_)
  obtain ⟨hD, hs3, hs9, hr, hn, hT⟩ := id hok
  have hsz := hD.1
  refine gW_b D_Gs_noteDone 0 2 (pc' := 2) (l' := [(0, .ref 0), (1, .int v), (2, .int 0)]) (st' := []) (h' := cGs S) (P := True) rfl trivial ?_
  refine l_noteDone S v hsz hz ?_ (dSz (sD S)) 0 (Nat.zero_add _)
  exact gW_vret (gdec_at D_Gs_noteDone 40 rfl) rfl (Nat.le_of_ble_eq_true rfl) ⟨rfl, rfl⟩ (Nat.le_of_ble_eq_true rfl) (Nat.le_of_ble_eq_true rfl)
set_option maxRecDepth 20000 in
theorem l_fill (S : gGS) {sc : Nat × (Nat → Int32)} {n0 : Nat} {E : gO → gH → Prop} (kk : gW K_Gs_foreseeSections sc { frames := 4, locals := 103, cells := 0, slots := 0 } n0 E 0 0 24 [(0, .ref 0), (1, .int (nI 10))] [] (cGs (sD S, sTr S, sR S, sN S, sDs S, sT S, fil (sDb S) 10))) : ∀ (n i : Nat), i + n = 10 → gW K_Gs_foreseeSections sc { frames := 4, locals := 103, cells := 0, slots := 0 } n0 E 0 0 2 [(0, .ref 0), (1, .int (nI i))] [] (cGs (sD S, sTr S, sR S, sN S, sDs S, sT S, fil (sDb S) i)) := by
  intro n
  induction n with
  | zero =>
    intro i hi
    obtain rfl : 10 = i := by omega
    refine gW_b D_Gs_foreseeSections 2 4 (pc' := 8) (l' := [(0, .ref 0), (1, .int (nI 10))]) (st' := [.int 10, .int (nI 10)]) (h' := cGs (sD S, sTr S, sR S, sN S, sDs S, sT S, fil (sDb S) 10)) (P := True) rfl trivial ?_
    refine gW_ic_ge (gdec_at D_Gs_foreseeSections 6 rfl) (tgt := 24) rfl (fun _ => ?_) (fun cq => absurd ((gle (gk 10) (rfl : nI 10 = nI 10) (by omega) (by omega)).mpr (by omega)) cq)
    exact kk
  | succ n ih =>
    intro i hi
    refine gW_b D_Gs_foreseeSections 2 4 (pc' := 8) (l' := [(0, .ref 0), (1, .int (nI i))]) (st' := [.int 10, .int (nI i)]) (h' := cGs (sD S, sTr S, sR S, sN S, sDs S, sT S, fil (sDb S) i)) (P := True) rfl trivial ?_
    refine gW_ic_ge (gdec_at D_Gs_foreseeSections 6 rfl) (tgt := 24) rfl (fun cq => absurd cq (mt (gle (gk 10) (rfl : nI i = nI i) (by omega) (by omega)).mp (by omega))) (fun _ => ?_)
    refine gW_b D_Gs_foreseeSections 7 7 (pc' := 2) (l' := [(0, .ref 0), (1, .int ((nI i) + 1))]) (st' := []) (h' := cGs (sD S, sTr S, sR S, sN S, sDs S, sT S, upd (fil (sDb S) i) ((nI i).toNatClampNeg) (-1))) (P := vp_in (nI i) 10 ∧ True) rfl ⟨(gvin (rfl : nI i = nI i) (by omega) (by omega)), trivial⟩ ?_
    rw [show (nI i).toNatClampNeg = i from gclp (rfl : nI i = nI i) (by omega)]
    rw [show ((nI i) + 1 : Int32) = nI (i + 1) from (gadd (rfl : nI i = nI i) (gk 1))]
    exact ih (i + 1) (by omega)
set_option maxRecDepth 20000 in
theorem l_foresee {sc : Nat × (Nat → Int32)} {n0 : Nat} {E : gO → gH → Prop} : ∀ (n i : Nat) (S : gGS), i + n = 61 → gsOK S → dmOK (sTr S) → (gW K_Gs_foreseeSections sc { frames := 4, locals := 103, cells := 0, slots := 0 } n0 E 0 0 74 [(0, .ref 0)] [] (cGs (fsR n i S))) → gW K_Gs_foreseeSections sc { frames := 4, locals := 103, cells := 0, slots := 0 } n0 E 0 0 37 [(0, .ref 0), (1, .int (nI i))] [] (cGs S) := by
  intro n
  induction n with
  | zero =>
    intro i S hi hok hT kk
    obtain rfl : i = 61 := by omega
    refine gW_b D_Gs_foreseeSections 21 2 (pc' := 40) (l' := [(0, .ref 0), (1, .int (nI 61))]) (st' := [.int 60, .int (nI 61)]) (h' := cGs S) (P := True) rfl trivial ?_
    refine gW_ic_gt (gdec_at D_Gs_foreseeSections 23 rfl) (tgt := 74) rfl (fun _ => ?_) (fun cq => absurd ((glt (gk 60) (rfl : nI 61 = nI 61) (by omega) (by omega)).mpr (by omega)) cq)
    refine gW_l [0] (l' := [(0, .ref 0)]) rfl ?_
    exact kk
  | succ n ih =>
    intro i S hi hok hT kk
    have hr := hok.2.2.2.1
    obtain ⟨q1, q2, q3⟩ := id hT
    have hz3 := q1.1
    refine gW_b D_Gs_foreseeSections 21 2 (pc' := 40) (l' := [(0, .ref 0), (1, .int (nI i))]) (st' := [.int 60, .int (nI i)]) (h' := cGs S) (P := True) rfl trivial ?_
    refine gW_ic_gt (gdec_at D_Gs_foreseeSections 23 rfl) (tgt := 74) rfl (fun cq => absurd cq (mt (glt (gk 60) (rfl : nI i = nI i) (by omega) (by omega)).mp (by omega))) (fun _ => ?_)
    refine gW_b D_Gs_foreseeSections 24 4 (pc' := 53) (l' := [(0, .ref 0), (1, .int (nI i))]) (st' := [.int (nI (dSz (sTr S)))]) (h' := cGs S) (P := True) rfl trivial ?_
    refine gW_if_le (gdec_at D_Gs_foreseeSections 28 rfl) (tgt := 74) rfl (fun c => ?_) (fun c => ?_)
    · have c := (gle (rfl : nI (dSz (sTr S)) = nI (dSz (sTr S))) (gk 0) (by omega) (by omega)).mp c
      rw [show fsR (n + 1) i S = S from if_neg (by omega)] at kk
      refine gW_l [0] (l' := [(0, .ref 0)]) rfl ?_
      exact kk
    · have c := mt (gle (rfl : nI (dSz (sTr S)) = nI (dSz (sTr S))) (gk 0) (by omega) (by omega)).mpr c
      have c2 : 0 < dSz (sTr S) := by omega
      rw [show fsR (n + 1) i S = fsR n (i + 1) (ndS (setTrl S (pdD (sTr S))) (nI i)) from if_pos c2] at kk
      have hT2 := pdD_dm hT
      have hz : dSz (pdD (sTr S)) ≤ 10 := hT2.1.1
      refine gW_b D_Gs_foreseeSections 29 2 (pc' := 60) (l' := [(0, .ref 0), (1, .int (nI i))]) (st' := [.ref 11]) (h' := cGs S) (P := True) rfl trivial ?_
      refine gW_callV (m_passDay (sTr S) (by assumption) (by assumption) (by assumption)) lk_Gs_130 (gps 11 10 0 0) (gdec_at D_Gs_foreseeSections 31 rfl) (st := []) rfl rfl (gCut_seg (Nat.le_of_ble_eq_true rfl) (Nat.le_of_ble_eq_true rfl) rfl (by decide +kernel)) (Nat.le_of_ble_eq_true rfl) rfl (by decide) rfl (Nat.le_of_ble_eq_true rfl) ⟨Nat.le_of_ble_eq_true rfl, Nat.le_of_ble_eq_true rfl⟩ ⟨Nat.le_of_ble_eq_true rfl, Nat.le_of_ble_eq_true rfl⟩ (gAft_s (Nat.le_of_ble_eq_true rfl) (Nat.le_of_ble_eq_true rfl) rfl rfl rfl rfl (h' := cGs (sD S, pdD (sTr S), sR S, sN S, sDs S, sT S, sDb S)) (st' := []) (pc' := 63) (cs' := 0) (ss' := 0) rfl rfl rfl rfl rfl ?_)
      rw [show cGs (sD S, pdD (sTr S), sR S, sN S, sDs S, sT S, sDb S) = cGs (setTrl S (pdD (sTr S))) from rfl]
      have hok2 : gsOK (setTrl S (pdD (sTr S))) := hok
      refine gW_b D_Gs_foreseeSections 32 2 (pc' := 65) (l' := [(0, .ref 0), (1, .int (nI i))]) (st' := [.int (nI i), .ref 0]) (h' := cGs (setTrl S (pdD (sTr S)))) (P := True) rfl trivial ?_
      refine gW_callV (m_noteDone (setTrl S (pdD (sTr S))) hok2 (nI i) (by assumption)) lk_Gs_302 (gps 0 89 0 0) (gdec_at D_Gs_foreseeSections 34 rfl) (st := []) rfl rfl (cutGs (setTrl S (pdD (sTr S))) (by exact hr)) (Nat.le_of_ble_eq_true rfl) rfl (by decide) rfl (Nat.le_of_ble_eq_true rfl) ⟨Nat.le_of_ble_eq_true rfl, Nat.le_of_ble_eq_true rfl⟩ ⟨Nat.le_of_ble_eq_true rfl, Nat.le_of_ble_eq_true rfl⟩ (gAft_s (Nat.le_of_ble_eq_true rfl) (Nat.le_of_ble_eq_true rfl) rfl rfl (wfGs _ (by exact hr)) rfl (h' := cGs (ndS (setTrl S (pdD (sTr S))) (nI i))) (st' := []) (pc' := 68) (cs' := 0) (ss' := 0) (mrgGs (setTrl S (pdD (sTr S))) (ndS (setTrl S (pdD (sTr S))) (nI i)) (by exact hr)) rfl rfl rfl rfl ?_)
      refine gW_b D_Gs_foreseeSections 35 2 (pc' := 37) (l' := [(0, .ref 0), (1, .int ((nI i) + 1))]) (st' := []) (h' := cGs (ndS (setTrl S (pdD (sTr S))) (nI i))) (P := True) rfl trivial ?_
      rw [show ((nI i) + 1 : Int32) = nI (i + 1) from (gadd (rfl : nI i = nI i) (gk 1))]
      exact ih (i + 1) _ (by omega) hok2 hT2 kk
set_option maxRecDepth 20000 in
theorem m_foresee (S : gGS) (hok : gsOK S)  : gM K_Gs_foreseeSections { frames := 4, locals := 103, cells := 0, slots := 0 } [.ref 0] (cGs S) (gD (.inl none) (cGs (fsS S))) := by
  refine gM_of rfl rfl (Nat.le_of_ble_eq_true rfl) (fun sc => ?_)
  obtain ⟨hD, hs3, hs9, hr, hn, hT⟩ := id hok
  have hsz := hD.1
  refine gW_b D_Gs_foreseeSections 0 2 (pc' := 2) (l' := [(0, .ref 0), (1, .int 0)]) (st' := []) (h' := cGs S) (P := True) rfl trivial ?_
  refine l_fill S ?_ 10 0 rfl
  refine gW_b D_Gs_foreseeSections 14 4 (pc' := 32) (l' := [(0, .ref 0), (1, .int (nI 10))]) (st' := [.ref 1, .ref 11]) (h' := cGs (sD S, sTr S, sR S, sN S, sDs S, sT S, fil (sDb S) 10)) (P := True) rfl trivial ?_
  refine gW_callV (m_DocopyFrom (sD S) (sTr S)) lk_Gs_299 (gps 11 10 1 10) (gdec_at D_Gs_foreseeSections 18 rfl) (st := []) rfl rfl (gCut_seg (Nat.le_of_ble_eq_true rfl) (Nat.le_of_ble_eq_true rfl) rfl (by decide +kernel)) (Nat.le_of_ble_eq_true rfl) rfl (by decide) rfl (Nat.le_of_ble_eq_true rfl) ⟨Nat.le_of_ble_eq_true rfl, Nat.le_of_ble_eq_true rfl⟩ ⟨Nat.le_of_ble_eq_true rfl, Nat.le_of_ble_eq_true rfl⟩ (gAft_s (Nat.le_of_ble_eq_true rfl) (Nat.le_of_ble_eq_true rfl) rfl rfl rfl rfl (h' := cGs (sD S, sD S, sR S, sN S, sDs S, sT S, fil (sDb S) 10)) (st' := []) (pc' := 35) (cs' := 0) (ss' := 0) rfl rfl rfl rfl rfl ?_)
  refine gW_b D_Gs_foreseeSections 19 2 (pc' := 37) (l' := [(0, .ref 0), (1, .int 1)]) (st' := []) (h' := cGs (sD S, sD S, sR S, sN S, sDs S, sT S, fil (sDb S) 10)) (P := True) rfl trivial ?_
  rw [show cGs (sD S, sD S, sR S, sN S, sDs S, sT S, fil (sDb S) 10) = cGs (setTrl (setDb S (fil (sDb S) 10)) (sD S)) from rfl]
  refine l_foresee 60 1 (setTrl (setDb S (fil (sDb S) 10)) (sD S)) rfl hok (gsOK_dm hok) ?_
  exact gW_vret (gdec_at D_Gs_foreseeSections 37 rfl) rfl (Nat.le_of_ble_eq_true rfl) ⟨rfl, rfl⟩ (Nat.le_of_ble_eq_true rfl) (Nat.le_of_ble_eq_true rfl)
set_option maxRecDepth 20000 in
theorem m_doneIn (S : gGS) (hok : gsOK S) (x : Int32) (p : Nat) (hp : p < dSz (sD S)) (hpl : plc (dG (sD S)) x (dSz (sD S)) 0 = nI p) : gM K_Gs_doneIn { frames := 5, locals := 124, cells := 0, slots := 0 } [.ref 0, .int x] (cGs S) (gD (.inl (some (.int (sDb (fsS S) p)))) (cGs (fsS S))) := by
  refine gM_of rfl rfl (Nat.le_of_ble_eq_true rfl) (fun sc => ?_)
  obtain ⟨hD, hs3, hs9, hr, hn, hT⟩ := id hok
  have hsz := hD.1
  refine gW_b D_Gs_doneIn 0 2 (pc' := 2) (l' := [(0, .ref 0), (1, .int x)]) (st' := [.int x, .ref 0]) (h' := cGs S) (P := True) rfl trivial ?_
  refine gW_callV (m_requireSection_n S hok x p hp hpl) lk_Gs_101 (gps 0 89 0 0) (gdec_at D_Gs_doneIn 2 rfl) (st := []) rfl rfl (cutGs S (by exact (by first | exact hr | (rw [(fsS_eq _).2.1]; exact hr)))) (Nat.le_of_ble_eq_true rfl) rfl (by decide) rfl (Nat.le_of_ble_eq_true rfl) ⟨Nat.le_of_ble_eq_true rfl, Nat.le_of_ble_eq_true rfl⟩ ⟨Nat.le_of_ble_eq_true rfl, Nat.le_of_ble_eq_true rfl⟩ (gAft_s (Nat.le_of_ble_eq_true rfl) (Nat.le_of_ble_eq_true rfl) rfl rfl (wfGs _ (by exact (by first | exact hr | (rw [(fsS_eq _).2.1]; exact hr)))) rfl (h' := cGs S) (st' := [.int (nI p)]) (pc' := 5) (cs' := 0) (ss' := 0) (mrgGs S S (by exact (by first | exact hr | (rw [(fsS_eq _).2.1]; exact hr)))) rfl rfl rfl rfl ?_)
  refine gW_b D_Gs_doneIn 3 2 (pc' := 7) (l' := [(0, .ref 0), (1, .int x), (2, .int (nI p))]) (st' := [.ref 0]) (h' := cGs S) (P := True) rfl trivial ?_
  refine gW_callV (m_foresee S hok ) lk_Gs_241 (gps 0 89 0 0) (gdec_at D_Gs_doneIn 5 rfl) (st := []) rfl rfl (cutGs S (by exact (by first | exact hr | (rw [(fsS_eq _).2.1]; exact hr)))) (Nat.le_of_ble_eq_true rfl) rfl (by decide) rfl (Nat.le_of_ble_eq_true rfl) ⟨Nat.le_of_ble_eq_true rfl, Nat.le_of_ble_eq_true rfl⟩ ⟨Nat.le_of_ble_eq_true rfl, Nat.le_of_ble_eq_true rfl⟩ (gAft_s (Nat.le_of_ble_eq_true rfl) (Nat.le_of_ble_eq_true rfl) rfl rfl (wfGs _ (by exact (by first | exact hr | (rw [(fsS_eq _).2.1]; exact hr)))) rfl (h' := cGs (fsS S)) (st' := []) (pc' := 10) (cs' := 0) (ss' := 0) (mrgGs S (fsS S) (by exact (by first | exact hr | (rw [(fsS_eq _).2.1]; exact hr)))) rfl rfl rfl rfl ?_)
  refine gW_b D_Gs_doneIn 6 3 (pc' := 15) (l' := [(0, .ref 0), (1, .int x), (2, .int (nI p))]) (st' := [.int (nI p), .ref 88]) (h' := cGs (fsS S)) (P := True) rfl trivial ?_
  refine gW_callS (m_valueAt 10 p (sDb (fsS S)) (by omega) (by omega)) lk_Gs_48 (gps 88 1 0 0) (gdec_at D_Gs_doneIn 9 rfl) (st := []) rfl rfl (gCut_seg (Nat.le_of_ble_eq_true rfl) (Nat.le_of_ble_eq_true rfl) rfl (by decide +kernel)) (Nat.le_of_ble_eq_true rfl) (Nat.le_of_ble_eq_true rfl) ⟨Nat.le_of_ble_eq_true rfl, Nat.le_of_ble_eq_true rfl⟩ ⟨Nat.le_of_ble_eq_true rfl, Nat.le_of_ble_eq_true rfl⟩ (gAft_s (Nat.le_of_ble_eq_true rfl) (Nat.le_of_ble_eq_true rfl) rfl rfl rfl rfl (h' := cGs (fsS S)) (st' := [.int ((sDb (fsS S)) p)]) (pc' := 18) (cs' := 0) (ss' := 0) rfl rfl rfl rfl rfl ?_)
  exact gW_iret (gdec_at D_Gs_doneIn 10 rfl) rfl rfl (Nat.le_of_ble_eq_true rfl) ⟨rfl, rfl⟩ (Nat.le_of_ble_eq_true rfl) (Nat.le_of_ble_eq_true rfl)
set_option maxRecDepth 20000 in
theorem m_doneIn_x (S : gGS) (hok : gsOK S) (x : Int32) (h : plc (dG (sD S)) x (dSz (sD S)) 0 = -1) : gM K_Gs_doneIn { frames := 8, locals := 124, cells := 1, slots := 6 } [.ref 0, .int x] (cGs S) (gD (.inr "java/lang/IndexOutOfBoundsException") (cGs S)) := by
  refine gM_of rfl rfl (Nat.le_of_ble_eq_true rfl) (fun sc => ?_)
  obtain ⟨hD, hs3, hs9, hr, hn, hT⟩ := id hok
  have hsz := hD.1
  refine gW_b D_Gs_doneIn 0 2 (pc' := 2) (l' := [(0, .ref 0), (1, .int x)]) (st' := [.int x, .ref 0]) (h' := cGs S) (P := True) rfl trivial ?_
  exact gW_callV (m_requireSection_x S hok x h) lk_Gs_101 (gps 0 89 0 0) (gdec_at D_Gs_doneIn 2 rfl) (st := []) rfl rfl (cutGs S (by exact hr)) (Nat.le_of_ble_eq_true rfl) rfl (by decide) rfl (Nat.le_of_ble_eq_true rfl) ⟨Nat.le_of_ble_eq_true rfl, Nat.le_of_ble_eq_true rfl⟩ ⟨Nat.le_of_ble_eq_true rfl, Nat.le_of_ble_eq_true rfl⟩ (gAft_sx (Nat.le_of_ble_eq_true rfl) (Nat.le_of_ble_eq_true rfl) rfl rfl (wfGs _ (by exact hr)) (mrgGs S S (by exact hr)) rfl (wfGs _ (by exact hr)) ⟨rfl, rfl⟩ rfl)
