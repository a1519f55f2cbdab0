/-! GoldSheets: the buffer's sections, the share, hashes. Printed by wip/whole/meths10.py -/
theorem rsT_ok {T : gTxt} (h : txOK T) : txOK (rsT T).2 := by
  unfold rsT
  split
  · exact (rdT_ok h).1
  · split
    · exact (kp_ok (rdT_ok h).1).1
    · exact (rdT_ok h).1
def aaD (D : gDom) (T : gTxt) : Nat → gDom
  | 0 => D
  | i + 1 => addD (aaD D T i) (xTon T i) (xCub T i) (xDay T i)
theorem aaD_sz (D : gDom) (T : gTxt) : ∀ i, dSz (aaD D T i) = dSz D + i
  | 0 => rfl
  | i + 1 => congrArg (· + 1) (aaD_sz D T i)
def aaS (S : gGS) : gGS := setT (setD (saveS S) (aaD (sD S) (sT S) (xPrt (sT S)))) (erT (sT S))
def rsS (S : gGS) : gGS := setT S (rsT (sT S)).2
theorem rsS_ok {S : gGS} (h : gsOK S) : gsOK (rsS S) := ⟨h.1, h.2.1, h.2.2.1, h.2.2.2.1, h.2.2.2.2.1, rsT_ok h.2.2.2.2.2⟩
def hfo (g : Nat → Int32) (h : Int64) : Nat → Int64
  | 0 => h
  | j + 1 => 31 * hfo g h j + (g j).toInt64
def hTrs (f : Nat → Int32) (h : Int64) : Nat → Int64
  | 0 => h
  | a + 1 => hfo (fun t => f (a * 4 + t)) (hTrs f h a) 4
def secV (D : gDom) (p k : Nat) : Int32 := if k = 5 then bI (decide (dG D (p * 5 + 3) < dDy D)) else dG D (p * 5 + k)
def hSes (S : gGS) (h : Int64) : Nat → Int64
  | 0 => h
  | p + 1 => 31 * hfo (secV (sD S) p) (hSes S h p) 6 + (sDb S p).toInt64
def tonV (D : gDom) (t k : Nat) : Int32 := if k = 0 then dSh D t else if k = 1 then hO (dTr D) t else if k = 2 then rdc (dTr D) t 6 else if k = 3 then dCu D t else if k = 4 then dLa D t else if k = 5 then dSw D t else wtc (dG D) (nI t) (dSz D)
def hTos (D : gDom) (h : Int64) : Nat → Int64
  | 0 => h
  | t + 1 => 31 * hfo (tonV D t) (hTos D h t) 7 + (msI D t).toInt64
theorem hfo7 (g : Nat → Int32) (x : Int64) : hfo g x 7 = 31 * (31 * (31 * (31 * (31 * (31 * (31 * x + (g 0).toInt64) + (g 1).toInt64) + (g 2).toInt64) + (g 3).toInt64) + (g 4).toInt64) + (g 5).toInt64) + (g 6).toInt64 := rfl
theorem tonV_0 (D : gDom) (t : Nat) : tonV D t 0 = dSh D t := by simp only [tonV, if_pos]
theorem tonV_1 (D : gDom) (t : Nat) : tonV D t 1 = hO (dTr D) t := by unfold tonV; rw [if_neg (by decide), if_pos (by decide)]
theorem tonV_2 (D : gDom) (t : Nat) : tonV D t 2 = rdc (dTr D) t 6 := by unfold tonV; rw [if_neg (by decide), if_neg (by decide), if_pos (by decide)]
theorem tonV_3 (D : gDom) (t : Nat) : tonV D t 3 = dCu D t := by unfold tonV; rw [if_neg (by decide), if_neg (by decide), if_neg (by decide), if_pos (by decide)]
theorem tonV_4 (D : gDom) (t : Nat) : tonV D t 4 = dLa D t := by unfold tonV; rw [if_neg (by decide), if_neg (by decide), if_neg (by decide), if_neg (by decide), if_pos (by decide)]
theorem tonV_5 (D : gDom) (t : Nat) : tonV D t 5 = dSw D t := by unfold tonV; rw [if_neg (by decide), if_neg (by decide), if_neg (by decide), if_neg (by decide), if_neg (by decide), if_pos (by decide)]
theorem tonV_6 (D : gDom) (t : Nat) : tonV D t 6 = wtc (dG D) (nI t) (dSz D) := by unfold tonV; rw [if_neg (by decide), if_neg (by decide), if_neg (by decide), if_neg (by decide), if_neg (by decide), if_neg (by decide)]
def hTx (T : gTxt) (h : Int64) : Int64 := hfo (xCod T) (31 * h + (nI (xLen T)).toInt64) (xLen T)
def lshV (D : gDom) : UInt64 := if sum4 (dCu D) < 1 then FP.dconst1 else FP.ddiv (FP.i2d (sum4 (dLa D))) (FP.i2d (sum4 (dCu D)))
set_option maxRecDepth 20000 in
theorem m_laidShare (S : gGS) (hok : gsOK S) (hq : ¬ sum4 (dCu (sD S)) < 1 → vf_n64 (FP.ddiv (FP.i2d (sum4 (dLa (sD S)))) (FP.i2d (sum4 (dCu (sD S)))))) : gM K_Gs_laidShare { frames := 1, locals := 25, cells := 0, slots := 0 } [.ref 0] (cGs S) (gD (.inl (some (.double (lshV (sD S))))) (cGs S)) := by
  refine gM_of rfl rfl (Nat.le_of_ble_eq_true rfl) (fun sc => ?_)
  obtain ⟨hD, hs3, hs9, hr, hn, hT⟩ := id hok
  have hsz := hD.1
  refine gW_b D_Gs_laidShare 0 3 (pc' := 7) (l' := [(0, .ref 0)]) (st' := [.ref 8]) (h' := cGs S) (P := True) rfl trivial ?_
  refine gW_callS (m_sumOf (dCu (sD S))) lk_Gs_126 (gps 8 1 0 0) (gdec_at D_Gs_laidShare 3 rfl) (st := []) rfl rfl (gCut_seg (Nat.le_of_ble_eq_true rfl) (Nat.le_of_ble_eq_true rfl) rfl (by decide +kernel)) (Nat.le_of_ble_eq_true rfl) (Nat.le_of_ble_eq_true rfl) ⟨Nat.le_of_ble_eq_true rfl, Nat.le_of_ble_eq_true rfl⟩ ⟨Nat.le_of_ble_eq_true rfl, Nat.le_of_ble_eq_true rfl⟩ (gAft_s (Nat.le_of_ble_eq_true rfl) (Nat.le_of_ble_eq_true rfl) rfl rfl rfl rfl (h' := cGs S) (st' := [.int (sum4 (dCu (sD S)))]) (pc' := 10) (cs' := 0) (ss' := 0) rfl rfl rfl rfl rfl ?_)
  refine gW_b D_Gs_laidShare 4 3 (pc' := 13) (l' := [(0, .ref 0), (1, .int (sum4 (dCu (sD S))))]) (st' := [.int 1, .int (sum4 (dCu (sD S)))]) (h' := cGs S) (P := True) rfl trivial ?_
  refine gW_ic_ge (gdec_at D_Gs_laidShare 7 rfl) (tgt := 20) rfl (fun c => ?_) (fun c => ?_)
  · skip
    refine gW_b D_Gs_laidShare 10 3 (pc' := 27) (l' := [(0, .ref 0), (1, .int (sum4 (dCu (sD S))))]) (st' := [.ref 9]) (h' := cGs S) (P := True) rfl trivial ?_
    refine gW_callS (m_sumOf (dLa (sD S))) lk_Gs_126 (gps 9 1 0 0) (gdec_at D_Gs_laidShare 13 rfl) (st := []) rfl rfl (gCut_seg (Nat.le_of_ble_eq_true rfl) (Nat.le_of_ble_eq_true rfl) rfl (by decide +kernel)) (Nat.le_of_ble_eq_true rfl) (Nat.le_of_ble_eq_true rfl) ⟨Nat.le_of_ble_eq_true rfl, Nat.le_of_ble_eq_true rfl⟩ ⟨Nat.le_of_ble_eq_true rfl, Nat.le_of_ble_eq_true rfl⟩ (gAft_s (Nat.le_of_ble_eq_true rfl) (Nat.le_of_ble_eq_true rfl) rfl rfl rfl rfl (h' := cGs S) (st' := [.int (sum4 (dLa (sD S)))]) (pc' := 30) (cs' := 0) (ss' := 0) rfl rfl rfl rfl rfl ?_)
    refine gW_b D_Gs_laidShare 14 4 (pc' := 34) (l' := [(0, .ref 0), (1, .int (sum4 (dCu (sD S))))]) (st' := [.double (FP.ddiv (FP.i2d (sum4 (dLa (sD S)))) (FP.i2d (sum4 (dCu (sD S)))))]) (h' := cGs S) (P := vf_n64 (FP.ddiv (FP.i2d (sum4 (dLa (sD S)))) (FP.i2d (sum4 (dCu (sD S))))) ∧ True) rfl ⟨hq (Int32.not_lt.mpr c), trivial⟩ ?_
    rw [show FP.ddiv (FP.i2d (sum4 (dLa (sD S)))) (FP.i2d (sum4 (dCu (sD S)))) = lshV (sD S) from (if_neg (Int32.not_lt.mpr c)).symm]
    exact gW_dret (gdec_at D_Gs_laidShare 18 rfl) rfl (Nat.le_of_ble_eq_true rfl) ⟨rfl, rfl⟩ (Nat.le_of_ble_eq_true rfl) (Nat.le_of_ble_eq_true rfl)
  · skip
    refine gW_b D_Gs_laidShare 8 2 (pc' := 34) (l' := [(0, .ref 0), (1, .int (sum4 (dCu (sD S))))]) (st' := [.double FP.dconst1]) (h' := cGs S) (P := True) rfl trivial ?_
    rw [show FP.dconst1 = lshV (sD S) from (if_pos (Int32.not_le.mp c)).symm]
    exact gW_dret (gdec_at D_Gs_laidShare 18 rfl) rfl (Nat.le_of_ble_eq_true rfl) ⟨rfl, rfl⟩ (Nat.le_of_ble_eq_true rfl) (Nat.le_of_ble_eq_true rfl)
