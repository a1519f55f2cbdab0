/-! GoldSheets$SectionText. Printed by wip/whole/meths4.py -/
/-- codes, length, the parts that were read: tones, cubes, days, how many; stage; the part under way -/
abbrev gTxt : Type := (Nat → Int32) × Nat × (Nat → Int32) × (Nat → Int32) × (Nat → Int32) × Nat × Nat × Int32 × Int32 × Int32
abbrev xCod (T : gTxt) : Nat → Int32 := T.1
abbrev xLen (T : gTxt) : Nat := T.2.1
abbrev xTon (T : gTxt) : Nat → Int32 := T.2.2.1
abbrev xCub (T : gTxt) : Nat → Int32 := T.2.2.2.1
abbrev xDay (T : gTxt) : Nat → Int32 := T.2.2.2.2.1
abbrev xPrt (T : gTxt) : Nat := T.2.2.2.2.2.1
abbrev xStg (T : gTxt) : Nat := T.2.2.2.2.2.2.1
abbrev xT (T : gTxt) : Int32 := T.2.2.2.2.2.2.2.1
abbrev xC (T : gTxt) : Int32 := T.2.2.2.2.2.2.2.2.1
abbrev xD (T : gTxt) : Int32 := T.2.2.2.2.2.2.2.2.2
abbrev cTx (b : Nat) (T : gTxt) : gH := [cO 4 [.ref (b + 1), .int (nI (xLen T)), .ref (b + 2), .ref (b + 3), .ref (b + 4), .int (nI (xPrt T)), .int (nI (xStg T)), .int (xT T), .int (xC T), .int (xD T)], cI 60 (xCod T), cI 12 (xTon T), cI 12 (xCub T), cI 12 (xDay T)]
theorem nar_b (b : Bool) : narrow .boolean (.int (bI b)) = .int (bI b) := by cases b <;> rfl
def txOK (T : gTxt) : Prop := xLen T ≤ 60 ∧ xPrt T ≤ 12 ∧ xStg T ≤ 4
def dig (c : Int32) : Bool := decide (48 ≤ c) && decide (c ≤ 57)

theorem m_isDigit (c : Int32) : gM K_Tx_isDigit { frames := 0, locals := 0, cells := 0, slots := 0 } [.int c] ([]) (gD (.inl (some (.int (bI (dig c))))) ([])) := by
  refine gM_of rfl rfl (Nat.le_of_ble_eq_true rfl) (fun sc => ?_)
  refine gW_b D_Tx_isDigit 0 2 (pc' := 3) (l' := [(0, .int c)]) (st' := [.int 48, .int c]) (h' := []) (P := True) rfl trivial ?_
  refine gW_ic_lt (gdec_at D_Tx_isDigit 2 rfl) (tgt := 16) rfl (fun d => ?_) (fun d => ?_)
  · skip
    refine gW_b D_Tx_isDigit 8 1 (pc' := 17) (l' := [(0, .int c)]) (st' := [.int 0]) (h' := []) (P := True) rfl trivial ?_
    rw [show bI (dig c) = 0 from by simp [dig, Int32.not_le.mpr d, bI]]
    exact gW_iret (gdec_at D_Tx_isDigit 9 rfl) rfl rfl (Nat.le_of_ble_eq_true rfl) ⟨rfl, rfl⟩ (Nat.le_of_ble_eq_true rfl) (Nat.le_of_ble_eq_true rfl)
  · skip
    refine gW_b D_Tx_isDigit 3 2 (pc' := 9) (l' := [(0, .int c)]) (st' := [.int 57, .int c]) (h' := []) (P := True) rfl trivial ?_
    refine gW_ic_gt (gdec_at D_Tx_isDigit 5 rfl) (tgt := 16) rfl (fun e => ?_) (fun e => ?_)
    · skip
      refine gW_b D_Tx_isDigit 8 1 (pc' := 17) (l' := [(0, .int c)]) (st' := [.int 0]) (h' := []) (P := True) rfl trivial ?_
      rw [show bI (dig c) = 0 from by simp [dig, Int32.not_le.mpr e, bI]]
      exact gW_iret (gdec_at D_Tx_isDigit 9 rfl) rfl rfl (Nat.le_of_ble_eq_true rfl) ⟨rfl, rfl⟩ (Nat.le_of_ble_eq_true rfl) (Nat.le_of_ble_eq_true rfl)
    · skip
      refine gW_b D_Tx_isDigit 6 2 (pc' := 17) (l' := [(0, .int c)]) (st' := [.int 1]) (h' := []) (P := True) rfl trivial ?_
      rw [show bI (dig c) = 1 from by simp [dig, Int32.not_lt.mp d, Int32.not_lt.mp e, bI]]
      exact gW_iret (gdec_at D_Tx_isDigit 9 rfl) rfl rfl (Nat.le_of_ble_eq_true rfl) ⟨rfl, rfl⟩ (Nat.le_of_ble_eq_true rfl) (Nat.le_of_ble_eq_true rfl)
def aF (T : gTxt) (c : Int32) : Bool × gTxt := if c < 49 then (false, T) else if c ≤ 57 then (true, (xCod T, xLen T, xTon T, xCub T, xDay T, xPrt T, 1, xT T, c - 48, xD T)) else (false, T)
def aCn (T : gTxt) (c : Int32) : Bool × gTxt := if bI (dig c) = 0 then (false, T) else if 10 * xC T + c - 48 ≤ 500 then (true, (xCod T, xLen T, xTon T, xCub T, xDay T, xPrt T, xStg T, xT T, 10 * xC T + c - 48, xD T)) else (false, T)
def aC (T : gTxt) (c : Int32) : Bool × gTxt := if c < 97 then aCn T c else if 101 ≤ c then aCn T c else (true, (xCod T, xLen T, xTon T, xCub T, xDay T, xPrt T, 2, c - 97, xC T, xD T))
def aA (T : gTxt) (c : Int32) : Bool × gTxt := if c = 64 then (true, (xCod T, xLen T, xTon T, xCub T, xDay T, xPrt T, 3, xT T, xC T, xD T)) else (false, T)
def aE (T : gTxt) (c : Int32) : Bool × gTxt := if bI (dig c) = 0 then (false, T) else (true, (xCod T, xLen T, xTon T, xCub T, xDay T, xPrt T, 4, xT T, xC T, c - 48))
def kp (T : gTxt) : gTxt := if 12 ≤ xPrt T then T else (xCod T, xLen T, upd (xTon T) (xPrt T) (xT T), upd (xCub T) (xPrt T) (xC T), upd (xDay T) (xPrt T) (xD T), xPrt T + 1, xStg T, xT T, xC T, xD T)
def stg0 (T : gTxt) : gTxt := (xCod T, xLen T, xTon T, xCub T, xDay T, xPrt T, 0, xT T, xC T, xD T)
def aD (T : gTxt) (c : Int32) : Bool × gTxt := if c = 59 then (true, stg0 (kp T)) else if bI (dig c) = 0 then (false, T) else if xD T = 0 then (false, T) else if 10 * xD T + c - 48 ≤ 999 then (true, (xCod T, xLen T, xTon T, xCub T, xDay T, xPrt T, xStg T, xT T, xC T, 10 * xD T + c - 48)) else (false, T)
def acc (T : gTxt) (c : Int32) : Bool × gTxt := if xStg T = 0 then aF T c else if xStg T = 1 then aC T c else if xStg T = 2 then aA T c else if xStg T = 3 then aE T c else aD T c
theorem kp_ok {T : gTxt} (h : txOK T) : txOK (kp T) ∧ xLen (kp T) = xLen T ∧ xCod (kp T) = xCod T := by
  unfold kp
  obtain ⟨h1, h2, h3⟩ := h
  split
  · exact ⟨⟨h1, h2, h3⟩, rfl, rfl⟩
  · exact ⟨⟨h1, by show xPrt T + 1 ≤ 12; omega, h3⟩, rfl, rfl⟩
theorem acc_ok {T : gTxt} (c : Int32) (h : txOK T) : txOK (acc T c).2 ∧ xLen (acc T c).2 = xLen T ∧ xCod (acc T c).2 = xCod T := by
  obtain ⟨h1, h2, h3⟩ := id h
  unfold acc
  split
  · unfold aF
    split
    · exact ⟨h, rfl, rfl⟩
    · split
      · exact ⟨⟨h1, h2, Nat.le_of_ble_eq_true rfl⟩, rfl, rfl⟩
      · exact ⟨h, rfl, rfl⟩
  · have hn : txOK (aCn T c).2 ∧ xLen (aCn T c).2 = xLen T ∧ xCod (aCn T c).2 = xCod T := by
      unfold aCn
      split
      · exact ⟨h, rfl, rfl⟩
      · split
        · exact ⟨⟨h1, h2, h3⟩, rfl, rfl⟩
        · exact ⟨h, rfl, rfl⟩
    split
    · unfold aC
      split
      · exact hn
      · split
        · exact hn
        · exact ⟨⟨h1, h2, Nat.le_of_ble_eq_true rfl⟩, rfl, rfl⟩
    · split
      · unfold aA
        split
        · exact ⟨⟨h1, h2, Nat.le_of_ble_eq_true rfl⟩, rfl, rfl⟩
        · exact ⟨h, rfl, rfl⟩
      · split
        · unfold aE
          split
          · exact ⟨h, rfl, rfl⟩
          · exact ⟨⟨h1, h2, Nat.le_of_ble_eq_true rfl⟩, rfl, rfl⟩
        · unfold aD
          split
          · obtain ⟨k1, k2, k3⟩ := kp_ok h
            exact ⟨⟨k1.1, k1.2.1, Nat.zero_le _⟩, k2, k3⟩
          · split
            · exact ⟨h, rfl, rfl⟩
            · split
              · exact ⟨h, rfl, rfl⟩
              · split
                · exact ⟨⟨h1, h2, h3⟩, rfl, rfl⟩
                · exact ⟨h, rfl, rfl⟩

theorem m_acceptsFirstDigit (T : gTxt) (c : Int32) (hT : txOK T) : gM K_Tx_acceptsFirstDigit { frames := 0, locals := 0, cells := 0, slots := 0 } [.ref 0, .int c] (cTx 0 T) (gD (.inl (some (.int (bI (aF T c).1)))) (cTx 0 ((aF T c).2))) := by
  refine gM_of rfl rfl (Nat.le_of_ble_eq_true rfl) (fun sc => ?_)
  refine gW_b D_Tx_acceptsFirstDigit 0 2 (pc' := 3) (l' := [(0, .ref 0), (1, .int c)]) (st' := [.int 49, .int c]) (h' := cTx 0 T) (P := True) rfl trivial ?_
  refine gW_ic_lt (gdec_at D_Tx_acceptsFirstDigit 2 rfl) (tgt := 12) rfl (fun d => ?_) (fun d => ?_)
  · skip
    refine gW_b D_Tx_acceptsFirstDigit 6 1 (pc' := 13) (l' := [(0, .ref 0), (1, .int c)]) (st' := [.int 0]) (h' := cTx 0 T) (P := True) rfl trivial ?_
    rw [show aF T c = (false, T) from if_pos d]
    exact gW_iret (gdec_at D_Tx_acceptsFirstDigit 7 rfl) rfl rfl (Nat.le_of_ble_eq_true rfl) ⟨rfl, rfl⟩ (Nat.le_of_ble_eq_true rfl) (Nat.le_of_ble_eq_true rfl)
  · skip
    refine gW_b D_Tx_acceptsFirstDigit 3 2 (pc' := 9) (l' := [(0, .ref 0), (1, .int c)]) (st' := [.int 57, .int c]) (h' := cTx 0 T) (P := True) rfl trivial ?_
    refine gW_ic_le (gdec_at D_Tx_acceptsFirstDigit 5 rfl) (tgt := 14) rfl (fun e => ?_) (fun e => ?_)
    · skip
      refine gW_b D_Tx_acceptsFirstDigit 8 9 (pc' := 28) (l' := [(0, .ref 0), (1, .int c)]) (st' := [.int 1]) (h' := cTx 0 (xCod T, xLen T, xTon T, xCub T, xDay T, xPrt T, 1, xT T, c - 48, xD T)) (P := True) rfl trivial ?_
      rw [show aF T c = (true, (xCod T, xLen T, xTon T, xCub T, xDay T, xPrt T, 1, xT T, c - 48, xD T)) from (if_neg d).trans (if_pos e)]
      exact gW_iret (gdec_at D_Tx_acceptsFirstDigit 17 rfl) rfl rfl (Nat.le_of_ble_eq_true rfl) ⟨rfl, rfl⟩ (Nat.le_of_ble_eq_true rfl) (Nat.le_of_ble_eq_true rfl)
    · skip
      refine gW_b D_Tx_acceptsFirstDigit 6 1 (pc' := 13) (l' := [(0, .ref 0), (1, .int c)]) (st' := [.int 0]) (h' := cTx 0 T) (P := True) rfl trivial ?_
      rw [show aF T c = (false, T) from (if_neg d).trans (if_neg e)]
      exact gW_iret (gdec_at D_Tx_acceptsFirstDigit 7 rfl) rfl rfl (Nat.le_of_ble_eq_true rfl) ⟨rfl, rfl⟩ (Nat.le_of_ble_eq_true rfl) (Nat.le_of_ble_eq_true rfl)

theorem m_acceptsInCubes (T : gTxt) (c : Int32) (hT : txOK T) : gM K_Tx_acceptsInCubes { frames := 1, locals := 20, cells := 0, slots := 0 } [.ref 0, .int c] (cTx 0 T) (gD (.inl (some (.int (bI (aC T c).1)))) (cTx 0 ((aC T c).2))) := by
  refine gM_of rfl rfl (Nat.le_of_ble_eq_true rfl) (fun sc => ?_)
  refine gW_b D_Tx_acceptsInCubes 0 2 (pc' := 3) (l' := [(0, .ref 0), (1, .int c)]) (st' := [.int 97, .int c]) (h' := cTx 0 T) (P := True) rfl trivial ?_
  refine gW_ic_lt (gdec_at D_Tx_acceptsInCubes 2 rfl) (tgt := 27) rfl (fun d => ?_) (fun d => ?_)
  · skip
    refine gW_b D_Tx_acceptsInCubes 16 10 (pc' := 41) (l' := [(0, .ref 0), (1, .int c), (2, .int (((10 * (xC T)) + c) - 48))]) (st' := [.int c]) (h' := cTx 0 T) (P := True) rfl trivial ?_
    refine gW_callS (m_isDigit c) lk_Tx_66 [] (gdec_at D_Tx_acceptsInCubes 26 rfl) (st := []) rfl rfl ⟨rfl, rfl⟩ (Nat.le_of_ble_eq_true rfl) (Nat.le_of_ble_eq_true rfl) ⟨Nat.le_of_ble_eq_true rfl, Nat.le_of_ble_eq_true rfl⟩ ⟨Nat.le_of_ble_eq_true rfl, Nat.le_of_ble_eq_true rfl⟩ (gAft_r rfl rfl (h' := cTx 0 T) (st' := [.int (bI (dig c))]) (pc' := 44) (cs' := 0) (ss' := 0) rfl rfl rfl rfl rfl ?_)
    refine gW_if_eq (gdec_at D_Tx_acceptsInCubes 27 rfl) (tgt := 54) rfl (fun f => ?_) (fun f => ?_)
    · skip
      refine gW_b D_Tx_acceptsInCubes 31 1 (pc' := 55) (l' := [(0, .ref 0), (1, .int c), (2, .int (((10 * (xC T)) + c) - 48))]) (st' := [.int 0]) (h' := cTx 0 T) (P := True) rfl trivial ?_
      rw [show aC T c = (false, T) from (show aC T c = aCn T c from if_pos d).trans (if_pos f)]
      exact gW_iret (gdec_at D_Tx_acceptsInCubes 32 rfl) rfl rfl (Nat.le_of_ble_eq_true rfl) ⟨rfl, rfl⟩ (Nat.le_of_ble_eq_true rfl) (Nat.le_of_ble_eq_true rfl)
    · skip
      refine gW_b D_Tx_acceptsInCubes 28 2 (pc' := 51) (l' := [(0, .ref 0), (1, .int c), (2, .int (((10 * (xC T)) + c) - 48))]) (st' := [.int 500, .int (((10 * (xC T)) + c) - 48)]) (h' := cTx 0 T) (P := True) rfl trivial ?_
      refine gW_ic_le (gdec_at D_Tx_acceptsInCubes 30 rfl) (tgt := 56) rfl (fun g => ?_) (fun g => ?_)
      · skip
        refine gW_b D_Tx_acceptsInCubes 33 4 (pc' := 62) (l' := [(0, .ref 0), (1, .int c), (2, .int (((10 * (xC T)) + c) - 48))]) (st' := [.int 1]) (h' := cTx 0 (xCod T, xLen T, xTon T, xCub T, xDay T, xPrt T, xStg T, xT T, ((10 * (xC T)) + c) - 48, xD T)) (P := True) rfl trivial ?_
        rw [show aC T c = (true, (xCod T, xLen T, xTon T, xCub T, xDay T, xPrt T, xStg T, xT T, 10 * xC T + c - 48, xD T)) from (show aC T c = aCn T c from if_pos d).trans ((if_neg f).trans (if_pos g))]
        exact gW_iret (gdec_at D_Tx_acceptsInCubes 37 rfl) rfl rfl (Nat.le_of_ble_eq_true rfl) ⟨rfl, rfl⟩ (Nat.le_of_ble_eq_true rfl) (Nat.le_of_ble_eq_true rfl)
      · skip
        refine gW_b D_Tx_acceptsInCubes 31 1 (pc' := 55) (l' := [(0, .ref 0), (1, .int c), (2, .int (((10 * (xC T)) + c) - 48))]) (st' := [.int 0]) (h' := cTx 0 T) (P := True) rfl trivial ?_
        rw [show aC T c = (false, T) from (show aC T c = aCn T c from if_pos d).trans ((if_neg f).trans (if_neg g))]
        exact gW_iret (gdec_at D_Tx_acceptsInCubes 32 rfl) rfl rfl (Nat.le_of_ble_eq_true rfl) ⟨rfl, rfl⟩ (Nat.le_of_ble_eq_true rfl) (Nat.le_of_ble_eq_true rfl)
  · skip
    refine gW_b D_Tx_acceptsInCubes 3 2 (pc' := 9) (l' := [(0, .ref 0), (1, .int c)]) (st' := [.int 101, .int c]) (h' := cTx 0 T) (P := True) rfl trivial ?_
    refine gW_ic_ge (gdec_at D_Tx_acceptsInCubes 5 rfl) (tgt := 27) rfl (fun e => ?_) (fun e => ?_)
    · skip
      refine gW_b D_Tx_acceptsInCubes 16 10 (pc' := 41) (l' := [(0, .ref 0), (1, .int c), (2, .int (((10 * (xC T)) + c) - 48))]) (st' := [.int c]) (h' := cTx 0 T) (P := True) rfl trivial ?_
      refine gW_callS (m_isDigit c) lk_Tx_66 [] (gdec_at D_Tx_acceptsInCubes 26 rfl) (st := []) rfl rfl ⟨rfl, rfl⟩ (Nat.le_of_ble_eq_true rfl) (Nat.le_of_ble_eq_true rfl) ⟨Nat.le_of_ble_eq_true rfl, Nat.le_of_ble_eq_true rfl⟩ ⟨Nat.le_of_ble_eq_true rfl, Nat.le_of_ble_eq_true rfl⟩ (gAft_r rfl rfl (h' := cTx 0 T) (st' := [.int (bI (dig c))]) (pc' := 44) (cs' := 0) (ss' := 0) rfl rfl rfl rfl rfl ?_)
      refine gW_if_eq (gdec_at D_Tx_acceptsInCubes 27 rfl) (tgt := 54) rfl (fun f => ?_) (fun f => ?_)
      · skip
        refine gW_b D_Tx_acceptsInCubes 31 1 (pc' := 55) (l' := [(0, .ref 0), (1, .int c), (2, .int (((10 * (xC T)) + c) - 48))]) (st' := [.int 0]) (h' := cTx 0 T) (P := True) rfl trivial ?_
        rw [show aC T c = (false, T) from (show aC T c = aCn T c from (if_neg d).trans (if_pos e)).trans (if_pos f)]
        exact gW_iret (gdec_at D_Tx_acceptsInCubes 32 rfl) rfl rfl (Nat.le_of_ble_eq_true rfl) ⟨rfl, rfl⟩ (Nat.le_of_ble_eq_true rfl) (Nat.le_of_ble_eq_true rfl)
      · skip
        refine gW_b D_Tx_acceptsInCubes 28 2 (pc' := 51) (l' := [(0, .ref 0), (1, .int c), (2, .int (((10 * (xC T)) + c) - 48))]) (st' := [.int 500, .int (((10 * (xC T)) + c) - 48)]) (h' := cTx 0 T) (P := True) rfl trivial ?_
        refine gW_ic_le (gdec_at D_Tx_acceptsInCubes 30 rfl) (tgt := 56) rfl (fun g => ?_) (fun g => ?_)
        · skip
          refine gW_b D_Tx_acceptsInCubes 33 4 (pc' := 62) (l' := [(0, .ref 0), (1, .int c), (2, .int (((10 * (xC T)) + c) - 48))]) (st' := [.int 1]) (h' := cTx 0 (xCod T, xLen T, xTon T, xCub T, xDay T, xPrt T, xStg T, xT T, ((10 * (xC T)) + c) - 48, xD T)) (P := True) rfl trivial ?_
          rw [show aC T c = (true, (xCod T, xLen T, xTon T, xCub T, xDay T, xPrt T, xStg T, xT T, 10 * xC T + c - 48, xD T)) from (show aC T c = aCn T c from (if_neg d).trans (if_pos e)).trans ((if_neg f).trans (if_pos g))]
          exact gW_iret (gdec_at D_Tx_acceptsInCubes 37 rfl) rfl rfl (Nat.le_of_ble_eq_true rfl) ⟨rfl, rfl⟩ (Nat.le_of_ble_eq_true rfl) (Nat.le_of_ble_eq_true rfl)
        · skip
          refine gW_b D_Tx_acceptsInCubes 31 1 (pc' := 55) (l' := [(0, .ref 0), (1, .int c), (2, .int (((10 * (xC T)) + c) - 48))]) (st' := [.int 0]) (h' := cTx 0 T) (P := True) rfl trivial ?_
          rw [show aC T c = (false, T) from (show aC T c = aCn T c from (if_neg d).trans (if_pos e)).trans ((if_neg f).trans (if_neg g))]
          exact gW_iret (gdec_at D_Tx_acceptsInCubes 32 rfl) rfl rfl (Nat.le_of_ble_eq_true rfl) ⟨rfl, rfl⟩ (Nat.le_of_ble_eq_true rfl) (Nat.le_of_ble_eq_true rfl)
    · skip
      refine gW_b D_Tx_acceptsInCubes 6 9 (pc' := 26) (l' := [(0, .ref 0), (1, .int c)]) (st' := [.int 1]) (h' := cTx 0 (xCod T, xLen T, xTon T, xCub T, xDay T, xPrt T, 2, c - 97, xC T, xD T)) (P := True) rfl trivial ?_
      rw [show aC T c = (true, (xCod T, xLen T, xTon T, xCub T, xDay T, xPrt T, 2, c - 97, xC T, xD T)) from (if_neg d).trans (if_neg e)]
      exact gW_iret (gdec_at D_Tx_acceptsInCubes 15 rfl) rfl rfl (Nat.le_of_ble_eq_true rfl) ⟨rfl, rfl⟩ (Nat.le_of_ble_eq_true rfl) (Nat.le_of_ble_eq_true rfl)

theorem m_acceptsAt (T : gTxt) (c : Int32) (hT : txOK T) : gM K_Tx_acceptsAt { frames := 0, locals := 0, cells := 0, slots := 0 } [.ref 0, .int c] (cTx 0 T) (gD (.inl (some (.int (bI (aA T c).1)))) (cTx 0 ((aA T c).2))) := by
  refine gM_of rfl rfl (Nat.le_of_ble_eq_true rfl) (fun sc => ?_)
  refine gW_b D_Tx_acceptsAt 0 2 (pc' := 3) (l' := [(0, .ref 0), (1, .int c)]) (st' := [.int 64, .int c]) (h' := cTx 0 T) (P := True) rfl trivial ?_
  refine gW_ic_eq (gdec_at D_Tx_acceptsAt 2 rfl) (tgt := 8) rfl (fun d => ?_) (fun d => ?_)
  · skip
    refine gW_b D_Tx_acceptsAt 5 4 (pc' := 14) (l' := [(0, .ref 0), (1, .int c)]) (st' := [.int 1]) (h' := cTx 0 (xCod T, xLen T, xTon T, xCub T, xDay T, xPrt T, 3, xT T, xC T, xD T)) (P := True) rfl trivial ?_
    rw [show aA T c = (true, (xCod T, xLen T, xTon T, xCub T, xDay T, xPrt T, 3, xT T, xC T, xD T)) from if_pos d]
    exact gW_iret (gdec_at D_Tx_acceptsAt 9 rfl) rfl rfl (Nat.le_of_ble_eq_true rfl) ⟨rfl, rfl⟩ (Nat.le_of_ble_eq_true rfl) (Nat.le_of_ble_eq_true rfl)
  · skip
    refine gW_b D_Tx_acceptsAt 3 1 (pc' := 7) (l' := [(0, .ref 0), (1, .int c)]) (st' := [.int 0]) (h' := cTx 0 T) (P := True) rfl trivial ?_
    rw [show aA T c = (false, T) from if_neg d]
    exact gW_iret (gdec_at D_Tx_acceptsAt 4 rfl) rfl rfl (Nat.le_of_ble_eq_true rfl) ⟨rfl, rfl⟩ (Nat.le_of_ble_eq_true rfl) (Nat.le_of_ble_eq_true rfl)

theorem m_acceptsDayDigit (T : gTxt) (c : Int32) (hT : txOK T) : gM K_Tx_acceptsDayDigit { frames := 1, locals := 20, cells := 0, slots := 0 } [.ref 0, .int c] (cTx 0 T) (gD (.inl (some (.int (bI (aE T c).1)))) (cTx 0 ((aE T c).2))) := by
  refine gM_of rfl rfl (Nat.le_of_ble_eq_true rfl) (fun sc => ?_)
  refine gW_b D_Tx_acceptsDayDigit 0 1 (pc' := 1) (l' := [(0, .ref 0), (1, .int c)]) (st' := [.int c]) (h' := cTx 0 T) (P := True) rfl trivial ?_
  refine gW_callS (m_isDigit c) lk_Tx_66 [] (gdec_at D_Tx_acceptsDayDigit 1 rfl) (st := []) rfl rfl ⟨rfl, rfl⟩ (Nat.le_of_ble_eq_true rfl) (Nat.le_of_ble_eq_true rfl) ⟨Nat.le_of_ble_eq_true rfl, Nat.le_of_ble_eq_true rfl⟩ ⟨Nat.le_of_ble_eq_true rfl, Nat.le_of_ble_eq_true rfl⟩ (gAft_r rfl rfl (h' := cTx 0 T) (st' := [.int (bI (dig c))]) (pc' := 4) (cs' := 0) (ss' := 0) rfl rfl rfl rfl rfl ?_)
  refine gW_if_ne (gdec_at D_Tx_acceptsDayDigit 2 rfl) (tgt := 9) rfl (fun d => ?_) (fun d => ?_)
  · skip
    refine gW_b D_Tx_acceptsDayDigit 5 9 (pc' := 23) (l' := [(0, .ref 0), (1, .int c)]) (st' := [.int 1]) (h' := cTx 0 (xCod T, xLen T, xTon T, xCub T, xDay T, xPrt T, 4, xT T, xC T, c - 48)) (P := True) rfl trivial ?_
    rw [show aE T c = (true, (xCod T, xLen T, xTon T, xCub T, xDay T, xPrt T, 4, xT T, xC T, c - 48)) from if_neg d]
    exact gW_iret (gdec_at D_Tx_acceptsDayDigit 14 rfl) rfl rfl (Nat.le_of_ble_eq_true rfl) ⟨rfl, rfl⟩ (Nat.le_of_ble_eq_true rfl) (Nat.le_of_ble_eq_true rfl)
  · skip
    refine gW_b D_Tx_acceptsDayDigit 3 1 (pc' := 8) (l' := [(0, .ref 0), (1, .int c)]) (st' := [.int 0]) (h' := cTx 0 T) (P := True) rfl trivial ?_
    rw [show aE T c = (false, T) from if_pos d]
    exact gW_iret (gdec_at D_Tx_acceptsDayDigit 4 rfl) rfl rfl (Nat.le_of_ble_eq_true rfl) ⟨rfl, rfl⟩ (Nat.le_of_ble_eq_true rfl) (Nat.le_of_ble_eq_true rfl)

theorem m_keepPart (T : gTxt) (hT : txOK T) : gM K_Tx_keepPart { frames := 0, locals := 0, cells := 0, slots := 0 } [.ref 0] (cTx 0 T) (gD (.inl none) (cTx 0 (kp T))) := by
  refine gM_of rfl rfl (Nat.le_of_ble_eq_true rfl) (fun sc => ?_)
  obtain ⟨hl, hp, hg⟩ := id hT
  refine gW_b D_Tx_keepPart 0 3 (pc' := 6) (l' := [(0, .ref 0)]) (st' := [.int 12, .int (nI (xPrt T))]) (h' := cTx 0 T) (P := True) rfl trivial ?_
  refine gW_ic_ge (gdec_at D_Tx_keepPart 3 rfl) (tgt := 58) rfl (fun d => ?_) (fun d => ?_)
  · have d := (gle (gk 12) (rfl : nI (xPrt T) = nI (xPrt T)) (by omega) (by omega)).mp d
    rw [show kp T = T from if_pos d]
    exact gW_vret (gdec_at D_Tx_keepPart 31 rfl) rfl (Nat.le_of_ble_eq_true rfl) ⟨rfl, rfl⟩ (Nat.le_of_ble_eq_true rfl) (Nat.le_of_ble_eq_true rfl)
  · have d := mt (gle (gk 12) (rfl : nI (xPrt T) = nI (xPrt T)) (by omega) (by omega)).mpr d
    refine gW_b D_Tx_keepPart 4 27 (pc' := 58) (l' := [(0, .ref 0)]) (st' := []) (h' := [cO 4 [.ref 1, .int (nI (xLen T)), .ref 2, .ref 3, .ref 4, .int ((nI (xPrt T)) + 1), .int (nI (xStg T)), .int (xT T), .int (xC T), .int (xD T)], cI 60 (xCod T), cI 12 (upd (xTon T) ((nI (xPrt T)).toNatClampNeg) (xT T)), cI 12 (upd (xCub T) ((nI (xPrt T)).toNatClampNeg) (xC T)), cI 12 (upd (xDay T) ((nI (xPrt T)).toNatClampNeg) (xD T))]) (P := vp_in (nI (xPrt T)) 12 ∧ vp_in (nI (xPrt T)) 12 ∧ vp_in (nI (xPrt T)) 12 ∧ True) rfl ⟨(gvin (rfl : nI (xPrt T) = nI (xPrt T)) (by omega) (by omega)), (gvin (rfl : nI (xPrt T) = nI (xPrt T)) (by omega) (by omega)), (gvin (rfl : nI (xPrt T) = nI (xPrt T)) (by omega) (by omega)), trivial⟩ ?_
    rw [show (nI (xPrt T)).toNatClampNeg = (xPrt T) from gclp (rfl : nI (xPrt T) = nI (xPrt T)) (by omega)]
    rw [show ((nI (xPrt T)) + 1 : Int32) = nI ((xPrt T) + 1) from (gadd (rfl : nI (xPrt T) = nI (xPrt T)) (gk 1))]
    rw [show kp T = _ from if_neg d]
    exact gW_vret (gdec_at D_Tx_keepPart 31 rfl) rfl (Nat.le_of_ble_eq_true rfl) ⟨rfl, rfl⟩ (Nat.le_of_ble_eq_true rfl) (Nat.le_of_ble_eq_true rfl)

theorem m_acceptsInDay (T : gTxt) (c : Int32) (hT : txOK T) : gM K_Tx_acceptsInDay { frames := 1, locals := 20, cells := 0, slots := 0 } [.ref 0, .int c] (cTx 0 T) (gD (.inl (some (.int (bI (aD T c).1)))) (cTx 0 ((aD T c).2))) := by
  refine gM_of rfl rfl (Nat.le_of_ble_eq_true rfl) (fun sc => ?_)
  refine gW_b D_Tx_acceptsInDay 0 2 (pc' := 3) (l' := [(0, .ref 0), (1, .int c)]) (st' := [.int 59, .int c]) (h' := cTx 0 T) (P := True) rfl trivial ?_
  refine gW_ic_ne (gdec_at D_Tx_acceptsInDay 2 rfl) (tgt := 17) rfl (fun d => ?_) (fun d => ?_)
  · skip
    refine gW_b D_Tx_acceptsInDay 10 10 (pc' := 31) (l' := [(0, .ref 0), (1, .int c), (2, .int (((10 * (xD T)) + c) - 48))]) (st' := [.int c]) (h' := cTx 0 T) (P := True) rfl trivial ?_
    refine gW_callS (m_isDigit c) lk_Tx_66 [] (gdec_at D_Tx_acceptsInDay 20 rfl) (st := []) rfl rfl ⟨rfl, rfl⟩ (Nat.le_of_ble_eq_true rfl) (Nat.le_of_ble_eq_true rfl) ⟨Nat.le_of_ble_eq_true rfl, Nat.le_of_ble_eq_true rfl⟩ ⟨Nat.le_of_ble_eq_true rfl, Nat.le_of_ble_eq_true rfl⟩ (gAft_r rfl rfl (h' := cTx 0 T) (st' := [.int (bI (dig c))]) (pc' := 34) (cs' := 0) (ss' := 0) rfl rfl rfl rfl rfl ?_)
    refine gW_if_eq (gdec_at D_Tx_acceptsInDay 21 rfl) (tgt := 51) rfl (fun e => ?_) (fun e => ?_)
    · skip
      refine gW_b D_Tx_acceptsInDay 28 1 (pc' := 52) (l' := [(0, .ref 0), (1, .int c), (2, .int (((10 * (xD T)) + c) - 48))]) (st' := [.int 0]) (h' := cTx 0 T) (P := True) rfl trivial ?_
      rw [show aD T c = (false, T) from (if_neg d).trans (if_pos e)]
      exact gW_iret (gdec_at D_Tx_acceptsInDay 29 rfl) rfl rfl (Nat.le_of_ble_eq_true rfl) ⟨rfl, rfl⟩ (Nat.le_of_ble_eq_true rfl) (Nat.le_of_ble_eq_true rfl)
    · skip
      refine gW_b D_Tx_acceptsInDay 22 2 (pc' := 41) (l' := [(0, .ref 0), (1, .int c), (2, .int (((10 * (xD T)) + c) - 48))]) (st' := [.int (xD T)]) (h' := cTx 0 T) (P := True) rfl trivial ?_
      refine gW_if_eq (gdec_at D_Tx_acceptsInDay 24 rfl) (tgt := 51) rfl (fun f => ?_) (fun f => ?_)
      · skip
        refine gW_b D_Tx_acceptsInDay 28 1 (pc' := 52) (l' := [(0, .ref 0), (1, .int c), (2, .int (((10 * (xD T)) + c) - 48))]) (st' := [.int 0]) (h' := cTx 0 T) (P := True) rfl trivial ?_
        rw [show aD T c = (false, T) from (if_neg d).trans ((if_neg e).trans (if_pos f))]
        exact gW_iret (gdec_at D_Tx_acceptsInDay 29 rfl) rfl rfl (Nat.le_of_ble_eq_true rfl) ⟨rfl, rfl⟩ (Nat.le_of_ble_eq_true rfl) (Nat.le_of_ble_eq_true rfl)
      · skip
        refine gW_b D_Tx_acceptsInDay 25 2 (pc' := 48) (l' := [(0, .ref 0), (1, .int c), (2, .int (((10 * (xD T)) + c) - 48))]) (st' := [.int 999, .int (((10 * (xD T)) + c) - 48)]) (h' := cTx 0 T) (P := True) rfl trivial ?_
        refine gW_ic_le (gdec_at D_Tx_acceptsInDay 27 rfl) (tgt := 53) rfl (fun g => ?_) (fun g => ?_)
        · skip
          refine gW_b D_Tx_acceptsInDay 30 4 (pc' := 59) (l' := [(0, .ref 0), (1, .int c), (2, .int (((10 * (xD T)) + c) - 48))]) (st' := [.int 1]) (h' := cTx 0 (xCod T, xLen T, xTon T, xCub T, xDay T, xPrt T, xStg T, xT T, xC T, ((10 * (xD T)) + c) - 48)) (P := True) rfl trivial ?_
          rw [show aD T c = (true, (xCod T, xLen T, xTon T, xCub T, xDay T, xPrt T, xStg T, xT T, xC T, 10 * xD T + c - 48)) from (if_neg d).trans ((if_neg e).trans ((if_neg f).trans (if_pos g)))]
          exact gW_iret (gdec_at D_Tx_acceptsInDay 34 rfl) rfl rfl (Nat.le_of_ble_eq_true rfl) ⟨rfl, rfl⟩ (Nat.le_of_ble_eq_true rfl) (Nat.le_of_ble_eq_true rfl)
        · skip
          refine gW_b D_Tx_acceptsInDay 28 1 (pc' := 52) (l' := [(0, .ref 0), (1, .int c), (2, .int (((10 * (xD T)) + c) - 48))]) (st' := [.int 0]) (h' := cTx 0 T) (P := True) rfl trivial ?_
          rw [show aD T c = (false, T) from (if_neg d).trans ((if_neg e).trans ((if_neg f).trans (if_neg g)))]
          exact gW_iret (gdec_at D_Tx_acceptsInDay 29 rfl) rfl rfl (Nat.le_of_ble_eq_true rfl) ⟨rfl, rfl⟩ (Nat.le_of_ble_eq_true rfl) (Nat.le_of_ble_eq_true rfl)
  · skip
    refine gW_b D_Tx_acceptsInDay 3 1 (pc' := 7) (l' := [(0, .ref 0), (1, .int c)]) (st' := [.ref 0]) (h' := cTx 0 T) (P := True) rfl trivial ?_
    refine gW_callV (m_keepPart T (by assumption)) lk_Tx_42 [0, 1, 2, 3, 4] (gdec_at D_Tx_acceptsInDay 4 rfl) (st := []) rfl rfl ⟨rfl, rfl⟩ (Nat.le_of_ble_eq_true rfl) rfl (by decide) rfl (Nat.le_of_ble_eq_true rfl) ⟨Nat.le_of_ble_eq_true rfl, Nat.le_of_ble_eq_true rfl⟩ ⟨Nat.le_of_ble_eq_true rfl, Nat.le_of_ble_eq_true rfl⟩ (gAft_r rfl rfl (h' := cTx 0 (kp T)) (st' := []) (pc' := 10) (cs' := 0) (ss' := 0) rfl rfl rfl rfl rfl ?_)
    refine gW_b D_Tx_acceptsInDay 5 4 (pc' := 16) (l' := [(0, .ref 0), (1, .int c)]) (st' := [.int 1]) (h' := cTx 0 (xCod (kp T), xLen (kp T), xTon (kp T), xCub (kp T), xDay (kp T), xPrt (kp T), 0, xT (kp T), xC (kp T), xD (kp T))) (P := True) rfl trivial ?_
    rw [show aD T c = (true, stg0 (kp T)) from if_pos d]
    exact gW_iret (gdec_at D_Tx_acceptsInDay 9 rfl) rfl rfl (Nat.le_of_ble_eq_true rfl) ⟨rfl, rfl⟩ (Nat.le_of_ble_eq_true rfl) (Nat.le_of_ble_eq_true rfl)

theorem m_accepts (T : gTxt) (c : Int32) (hT : txOK T) : gM K_Tx_accepts { frames := 2, locals := 42, cells := 0, slots := 0 } [.ref 0, .int c] (cTx 0 T) (gD (.inl (some (.int (bI (acc T c).1)))) (cTx 0 ((acc T c).2))) := by
  refine gM_of rfl rfl (Nat.le_of_ble_eq_true rfl) (fun sc => ?_)
  obtain ⟨hl, hp, hg⟩ := id hT
  refine gW_b D_Tx_accepts 0 2 (pc' := 4) (l' := [(0, .ref 0), (1, .int c)]) (st' := [.int (nI (xStg T))]) (h' := cTx 0 T) (P := True) rfl trivial ?_
  by_cases h0 : xStg T = 0
  · skip
    refine gW_tin S_Tx_accepts_4 (tgt := 36) (by rw [h0]; decide) (by rw [h0]; decide) (off := 32) (by rw [h0]; decide) rfl ?_
    refine gW_b D_Tx_accepts 2 2 (pc' := 38) (l' := [(0, .ref 0), (1, .int c)]) (st' := [.int c, .ref 0]) (h' := cTx 0 T) (P := True) rfl trivial ?_
    refine gW_callV (m_acceptsFirstDigit T c (by assumption)) lk_Tx_45 [0, 1, 2, 3, 4] (gdec_at D_Tx_accepts 4 rfl) (st := []) rfl rfl ⟨rfl, rfl⟩ (Nat.le_of_ble_eq_true rfl) rfl (by decide) rfl (Nat.le_of_ble_eq_true rfl) ⟨Nat.le_of_ble_eq_true rfl, Nat.le_of_ble_eq_true rfl⟩ ⟨Nat.le_of_ble_eq_true rfl, Nat.le_of_ble_eq_true rfl⟩ (gAft_r rfl rfl (h' := cTx 0 ((aF T c).2)) (st' := [.int (bI (aF T c).1)]) (pc' := 41) (cs' := 0) (ss' := 0) rfl rfl rfl rfl rfl ?_)
    rw [show acc T c = aF T c from if_pos h0]
    exact gW_iret (gdec_at D_Tx_accepts 5 rfl) rfl (nar_b _) (Nat.le_of_ble_eq_true rfl) ⟨rfl, rfl⟩ (Nat.le_of_ble_eq_true rfl) (Nat.le_of_ble_eq_true rfl)
  by_cases h1 : xStg T = 1
  · skip
    refine gW_tin S_Tx_accepts_4 (tgt := 42) (by rw [h1]; decide) (by rw [h1]; decide) (off := 38) (by rw [h1]; decide) rfl ?_
    refine gW_b D_Tx_accepts 6 2 (pc' := 44) (l' := [(0, .ref 0), (1, .int c)]) (st' := [.int c, .ref 0]) (h' := cTx 0 T) (P := True) rfl trivial ?_
    refine gW_callV (m_acceptsInCubes T c (by assumption)) lk_Tx_48 [0, 1, 2, 3, 4] (gdec_at D_Tx_accepts 8 rfl) (st := []) rfl rfl ⟨rfl, rfl⟩ (Nat.le_of_ble_eq_true rfl) rfl (by decide) rfl (Nat.le_of_ble_eq_true rfl) ⟨Nat.le_of_ble_eq_true rfl, Nat.le_of_ble_eq_true rfl⟩ ⟨Nat.le_of_ble_eq_true rfl, Nat.le_of_ble_eq_true rfl⟩ (gAft_r rfl rfl (h' := cTx 0 ((aC T c).2)) (st' := [.int (bI (aC T c).1)]) (pc' := 47) (cs' := 0) (ss' := 0) rfl rfl rfl rfl rfl ?_)
    rw [show acc T c = aC T c from (if_neg h0).trans (if_pos h1)]
    exact gW_iret (gdec_at D_Tx_accepts 9 rfl) rfl (nar_b _) (Nat.le_of_ble_eq_true rfl) ⟨rfl, rfl⟩ (Nat.le_of_ble_eq_true rfl) (Nat.le_of_ble_eq_true rfl)
  by_cases h2 : xStg T = 2
  · skip
    refine gW_tin S_Tx_accepts_4 (tgt := 48) (by rw [h2]; decide) (by rw [h2]; decide) (off := 44) (by rw [h2]; decide) rfl ?_
    refine gW_b D_Tx_accepts 10 2 (pc' := 50) (l' := [(0, .ref 0), (1, .int c)]) (st' := [.int c, .ref 0]) (h' := cTx 0 T) (P := True) rfl trivial ?_
    refine gW_callV (m_acceptsAt T c (by assumption)) lk_Tx_51 [0, 1, 2, 3, 4] (gdec_at D_Tx_accepts 12 rfl) (st := []) rfl rfl ⟨rfl, rfl⟩ (Nat.le_of_ble_eq_true rfl) rfl (by decide) rfl (Nat.le_of_ble_eq_true rfl) ⟨Nat.le_of_ble_eq_true rfl, Nat.le_of_ble_eq_true rfl⟩ ⟨Nat.le_of_ble_eq_true rfl, Nat.le_of_ble_eq_true rfl⟩ (gAft_r rfl rfl (h' := cTx 0 ((aA T c).2)) (st' := [.int (bI (aA T c).1)]) (pc' := 53) (cs' := 0) (ss' := 0) rfl rfl rfl rfl rfl ?_)
    rw [show acc T c = aA T c from (if_neg h0).trans ((if_neg h1).trans (if_pos h2))]
    exact gW_iret (gdec_at D_Tx_accepts 13 rfl) rfl (nar_b _) (Nat.le_of_ble_eq_true rfl) ⟨rfl, rfl⟩ (Nat.le_of_ble_eq_true rfl) (Nat.le_of_ble_eq_true rfl)
  by_cases h3 : xStg T = 3
  · skip
    refine gW_tin S_Tx_accepts_4 (tgt := 54) (by rw [h3]; decide) (by rw [h3]; decide) (off := 50) (by rw [h3]; decide) rfl ?_
    refine gW_b D_Tx_accepts 14 2 (pc' := 56) (l' := [(0, .ref 0), (1, .int c)]) (st' := [.int c, .ref 0]) (h' := cTx 0 T) (P := True) rfl trivial ?_
    refine gW_callV (m_acceptsDayDigit T c (by assumption)) lk_Tx_54 [0, 1, 2, 3, 4] (gdec_at D_Tx_accepts 16 rfl) (st := []) rfl rfl ⟨rfl, rfl⟩ (Nat.le_of_ble_eq_true rfl) rfl (by decide) rfl (Nat.le_of_ble_eq_true rfl) ⟨Nat.le_of_ble_eq_true rfl, Nat.le_of_ble_eq_true rfl⟩ ⟨Nat.le_of_ble_eq_true rfl, Nat.le_of_ble_eq_true rfl⟩ (gAft_r rfl rfl (h' := cTx 0 ((aE T c).2)) (st' := [.int (bI (aE T c).1)]) (pc' := 59) (cs' := 0) (ss' := 0) rfl rfl rfl rfl rfl ?_)
    rw [show acc T c = aE T c from (if_neg h0).trans ((if_neg h1).trans ((if_neg h2).trans (if_pos h3)))]
    exact gW_iret (gdec_at D_Tx_accepts 17 rfl) rfl (nar_b _) (Nat.le_of_ble_eq_true rfl) ⟨rfl, rfl⟩ (Nat.le_of_ble_eq_true rfl) (Nat.le_of_ble_eq_true rfl)
  refine gW_tout S_Tx_accepts_4 (tgt := 60) (Or.inr (by rw [nI_toInt (by omega)]; omega)) rfl ?_
  refine gW_b D_Tx_accepts 18 2 (pc' := 62) (l' := [(0, .ref 0), (1, .int c)]) (st' := [.int c, .ref 0]) (h' := cTx 0 T) (P := True) rfl trivial ?_
  refine gW_callV (m_acceptsInDay T c (by assumption)) lk_Tx_57 [0, 1, 2, 3, 4] (gdec_at D_Tx_accepts 20 rfl) (st := []) rfl rfl ⟨rfl, rfl⟩ (Nat.le_of_ble_eq_true rfl) rfl (by decide) rfl (Nat.le_of_ble_eq_true rfl) ⟨Nat.le_of_ble_eq_true rfl, Nat.le_of_ble_eq_true rfl⟩ ⟨Nat.le_of_ble_eq_true rfl, Nat.le_of_ble_eq_true rfl⟩ (gAft_r rfl rfl (h' := cTx 0 ((aD T c).2)) (st' := [.int (bI (aD T c).1)]) (pc' := 65) (cs' := 0) (ss' := 0) rfl rfl rfl rfl rfl ?_)
  rw [show acc T c = aD T c from (if_neg h0).trans ((if_neg h1).trans ((if_neg h2).trans ((if_neg h3).trans (rfl))))]
  exact gW_iret (gdec_at D_Tx_accepts 21 rfl) rfl (nar_b _) (Nat.le_of_ble_eq_true rfl) ⟨rfl, rfl⟩ (Nat.le_of_ble_eq_true rfl) (Nat.le_of_ble_eq_true rfl)
def rdR (n : Nat) (i : Nat) (T : gTxt) : Nat × gTxt := match n with
  | 0 => (i, T)
  | n + 1 => if bI (acc T (xCod T i)).1 = 0 then (i, (acc T (xCod T i)).2) else rdR n (i + 1) (acc T (xCod T i)).2
def rst (T : gTxt) : gTxt := (xCod T, xLen T, xTon T, xCub T, xDay T, 0, 0, xT T, xC T, xD T)
/-- the first syntax error's place, or the length; and what was read -/
def rdT (T : gTxt) : Nat × gTxt := rdR (xLen T) 0 (rst T)
theorem rdR_ok : ∀ (n i : Nat) (T : gTxt), txOK T → i + n = xLen T → txOK (rdR n i T).2 ∧ xLen (rdR n i T).2 = xLen T ∧ xCod (rdR n i T).2 = xCod T ∧ (rdR n i T).1 ≤ xLen T
  | 0, i, T, h, hi => ⟨h, rfl, rfl, by show i ≤ xLen T; omega⟩
  | n + 1, i, T, h, hi => by
    obtain ⟨a1, a2, a3⟩ := acc_ok (xCod T i) h
    unfold rdR
    split
    · exact ⟨a1, a2, a3, by show i ≤ xLen T; omega⟩
    · obtain ⟨b1, b2, b3, b4⟩ := rdR_ok n (i + 1) (acc T (xCod T i)).2 a1 (by rw [a2]; omega)
      exact ⟨b1, b2.trans a2, b3.trans a3, by rw [a2] at b4; exact b4⟩
theorem rdT_ok {T : gTxt} (h : txOK T) : txOK (rdT T).2 ∧ xLen (rdT T).2 = xLen T ∧ xCod (rdT T).2 = xCod T ∧ (rdT T).1 ≤ xLen T := rdR_ok (xLen T) 0 (rst T) ⟨h.1, Nat.zero_le _, Nat.zero_le _⟩ (Nat.zero_add _)
theorem l_read {sc : Nat × (Nat → Int32)} {n0 : Nat} (hn0 : n0 ≤ 5) : ∀ (n i : Nat) (T : gTxt), txOK T → i + n = xLen T → gW K_Tx_read sc { frames := 3, locals := 63, cells := 0, slots := 0 } n0 (gD (.inl (some (.int (nI (rdR n i T).1)))) (cTx 0 (rdR n i T).2)) 0 0 12 [(0, .ref 0), (1, .int (nI i))] [] (cTx 0 T) := by
  intro n
  induction n with
  | zero =>
    intro i T hT hi
    obtain ⟨hl, hp, hg⟩ := id hT
    refine gW_b D_Tx_read 8 3 (pc' := 17) (l' := [(0, .ref 0), (1, .int (nI i))]) (st' := [.int (nI (xLen T)), .int (nI i)]) (h' := cTx 0 T) (P := True) rfl trivial ?_
    refine gW_ic_ge (gdec_at D_Tx_read 11 rfl) (tgt := 47) rfl (fun _ => ?_) (fun cq => absurd ((gle (rfl : nI (xLen T) = nI (xLen T)) (rfl : nI i = nI i) (by omega) (by omega)).mpr (by omega)) cq)
    refine gW_b D_Tx_read 26 2 (pc' := 51) (l' := [(0, .ref 0), (1, .int (nI i))]) (st' := [.int (nI (xLen T))]) (h' := cTx 0 T) (P := True) rfl trivial ?_
    rw [show rdR 0 i T = (xLen T, T) from by rw [show xLen T = i by omega]; rfl]
    exact gW_iret (gdec_at D_Tx_read 28 rfl) rfl rfl hn0 ⟨rfl, rfl⟩ (Nat.le_of_ble_eq_true rfl) (Nat.le_of_ble_eq_true rfl)
  | succ n ih =>
    intro i T hT hi
    obtain ⟨hl, hp, hg⟩ := id hT
    refine gW_b D_Tx_read 8 3 (pc' := 17) (l' := [(0, .ref 0), (1, .int (nI i))]) (st' := [.int (nI (xLen T)), .int (nI i)]) (h' := cTx 0 T) (P := True) rfl trivial ?_
    refine gW_ic_ge (gdec_at D_Tx_read 11 rfl) (tgt := 47) rfl (fun cq => absurd cq (mt (gle (rfl : nI (xLen T) = nI (xLen T)) (rfl : nI i = nI i) (by omega) (by omega)).mp (by omega))) (fun _ => ?_)
    refine gW_b D_Tx_read 12 2 (pc' := 23) (l' := [(0, .ref 0), (1, .int (nI i))]) (st' := [.int 60, .int (nI i)]) (h' := cTx 0 T) (P := True) rfl trivial ?_
    refine gW_ic_ge (gdec_at D_Tx_read 14 rfl) (tgt := 47) rfl (fun cq => absurd cq (mt (gle (gk 60) (rfl : nI i = nI i) (by omega) (by omega)).mp (by omega))) (fun _ => ?_)
    refine gW_b D_Tx_read 15 5 (pc' := 33) (l' := [(0, .ref 0), (1, .int (nI i))]) (st' := [.int ((xCod T) ((nI i).toNatClampNeg)), .ref 0]) (h' := cTx 0 T) (P := vp_in (nI i) 60 ∧ True) rfl ⟨(gvin (rfl : nI i = nI i) (by omega) (by omega)), trivial⟩ ?_
    rw [show (nI i).toNatClampNeg = i from gclp (rfl : nI i = nI i) (by omega)]
    refine gW_callV (m_accepts T ((xCod T) (i)) (by assumption)) lk_Tx_34 [0, 1, 2, 3, 4] (gdec_at D_Tx_read 20 rfl) (st := []) rfl rfl ⟨rfl, rfl⟩ (Nat.le_of_ble_eq_true rfl) rfl (by decide) rfl (Nat.le_of_ble_eq_true rfl) ⟨Nat.le_of_ble_eq_true rfl, Nat.le_of_ble_eq_true rfl⟩ ⟨Nat.le_of_ble_eq_true rfl, Nat.le_of_ble_eq_true rfl⟩ (gAft_r rfl rfl (h' := cTx 0 ((acc T ((xCod T) (i))).2)) (st' := [.int (bI (acc T ((xCod T) (i))).1)]) (pc' := 36) (cs' := 0) (ss' := 0) rfl rfl rfl rfl rfl ?_)
    refine gW_if_ne (gdec_at D_Tx_read 21 rfl) (tgt := 41) rfl (fun d => ?_) (fun d => ?_)
    · skip
      obtain ⟨a1, a2, a3⟩ := acc_ok (xCod T i) hT
      refine gW_b D_Tx_read 24 2 (pc' := 12) (l' := [(0, .ref 0), (1, .int ((nI i) + 1))]) (st' := []) (h' := cTx 0 ((acc T ((xCod T) (i))).2)) (P := True) rfl trivial ?_
      rw [show ((nI i) + 1 : Int32) = nI (i + 1) from (gadd (rfl : nI i = nI i) (gk 1))]
      rw [show rdR (n + 1) i T = rdR n (i + 1) (acc T (xCod T i)).2 from if_neg d]
      exact ih (i + 1) _ a1 (by rw [a2]; omega)
    · skip
      refine gW_b D_Tx_read 22 1 (pc' := 40) (l' := [(0, .ref 0), (1, .int (nI i))]) (st' := [.int (nI i)]) (h' := cTx 0 ((acc T ((xCod T) (i))).2)) (P := True) rfl trivial ?_
      rw [show rdR (n + 1) i T = (i, (acc T (xCod T i)).2) from if_pos d]
      exact gW_iret (gdec_at D_Tx_read 23 rfl) rfl rfl hn0 ⟨rfl, rfl⟩ (Nat.le_of_ble_eq_true rfl) (Nat.le_of_ble_eq_true rfl)
theorem m_read (T : gTxt) (hT : txOK T) : gM K_Tx_read { frames := 3, locals := 63, cells := 0, slots := 0 } [.ref 0] (cTx 0 T) (gD (.inl (some (.int (nI ((rdT T).1))))) (cTx 0 ((rdT T).2))) := by
  refine gM_of rfl rfl (Nat.le_of_ble_eq_true rfl) (fun sc => ?_)
  obtain ⟨hl, hp, hg⟩ := id hT
  refine gW_b D_Tx_read 0 8 (pc' := 12) (l' := [(0, .ref 0), (1, .int 0)]) (st' := []) (h' := cTx 0 (xCod T, xLen T, xTon T, xCub T, xDay T, 0, 0, xT T, xC T, xD T)) (P := True) rfl trivial ?_
  exact l_read (Nat.le_refl _) (xLen T) 0 (rst T) ⟨hl, Nat.zero_le _, Nat.zero_le _⟩ (Nat.zero_add _)
def adT (T : gTxt) (v : Int32) : gTxt := (upd (xCod T) (xLen T) v, xLen T + 1, T.2.2)
def erT (T : gTxt) : gTxt := (xCod T, 0, T.2.2)

theorem m_Txadd (T : gTxt) (v : Int32) (h : xLen T < 60) : gM K_Tx_add { frames := 0, locals := 0, cells := 0, slots := 0 } [.ref 0, .int v] (cTx 0 T) (gD (.inl none) (cTx 0 (adT T v))) := by
  refine gM_of rfl rfl (Nat.le_of_ble_eq_true rfl) (fun sc => ?_)
  refine gW_b D_Tx_add 0 3 (pc' := 6) (l' := [(0, .ref 0), (1, .int v)]) (st' := [.int 60, .int (nI (xLen T))]) (h' := cTx 0 T) (P := True) rfl trivial ?_
  refine gW_ic_ge (gdec_at D_Tx_add 3 rfl) (tgt := 29) rfl (fun cq => absurd cq (mt (gle (gk 60) (rfl : nI (xLen T) = nI (xLen T)) (by omega) (by omega)).mp (by omega))) (fun _ => ?_)
  refine gW_b D_Tx_add 4 12 (pc' := 29) (l' := [(0, .ref 0), (1, .int v)]) (st' := []) (h' := [cO 4 [.ref 1, .int ((nI (xLen T)) + 1), .ref 2, .ref 3, .ref 4, .int (nI (xPrt T)), .int (nI (xStg T)), .int (xT T), .int (xC T), .int (xD T)], cI 60 (upd (xCod T) ((nI (xLen T)).toNatClampNeg) v), cI 12 (xTon T), cI 12 (xCub T), cI 12 (xDay T)]) (P := vp_in (nI (xLen T)) 60 ∧ True) rfl ⟨(gvin (rfl : nI (xLen T) = nI (xLen T)) (by omega) (by omega)), trivial⟩ ?_
  rw [show (nI (xLen T)).toNatClampNeg = (xLen T) from gclp (rfl : nI (xLen T) = nI (xLen T)) (by omega)]
  rw [show ((nI (xLen T)) + 1 : Int32) = nI ((xLen T) + 1) from (gadd (rfl : nI (xLen T) = nI (xLen T)) (gk 1))]
  exact gW_vret (gdec_at D_Tx_add 16 rfl) rfl (Nat.le_of_ble_eq_true rfl) ⟨rfl, rfl⟩ (Nat.le_of_ble_eq_true rfl) (Nat.le_of_ble_eq_true rfl)

theorem m_erase (T : gTxt) : gM K_Tx_erase { frames := 0, locals := 0, cells := 0, slots := 0 } [.ref 0] (cTx 0 T) (gD (.inl none) (cTx 0 (erT T))) := by
  refine gM_of rfl rfl (Nat.le_of_ble_eq_true rfl) (fun sc => ?_)
  refine gW_b D_Tx_erase 0 3 (pc' := 5) (l' := [(0, .ref 0)]) (st' := []) (h' := cTx 0 (xCod T, 0, xTon T, xCub T, xDay T, xPrt T, xStg T, xT T, xC T, xD T)) (P := True) rfl trivial ?_
  exact gW_vret (gdec_at D_Tx_erase 3 rfl) rfl (Nat.le_of_ble_eq_true rfl) ⟨rfl, rfl⟩ (Nat.le_of_ble_eq_true rfl) (Nat.le_of_ble_eq_true rfl)
def rsT (T : gTxt) : Bool × gTxt := if (rdT T).1 < xLen T then (false, (rdT T).2) else if xStg (rdT T).2 = 4 then (true, kp (rdT T).2) else (false, (rdT T).2)

theorem m_readSections (T : gTxt) (hT : txOK T) : gM K_Tx_readSections { frames := 4, locals := 84, cells := 0, slots := 0 } [.ref 0] (cTx 0 T) (gD (.inl (some (.int (bI (rsT T).1)))) (cTx 0 ((rsT T).2))) := by
  refine gM_of rfl rfl (Nat.le_of_ble_eq_true rfl) (fun sc => ?_)
  obtain ⟨h1, h2, h3, h4⟩ := rdT_ok hT
  obtain ⟨k1, k2, k3⟩ := id h1
  have k4 := hT.1
  refine gW_b D_Tx_readSections 0 1 (pc' := 1) (l' := [(0, .ref 0)]) (st' := [.ref 0]) (h' := cTx 0 T) (P := True) rfl trivial ?_
  refine gW_callV (m_read T (by assumption)) lk_Tx_38 [0, 1, 2, 3, 4] (gdec_at D_Tx_readSections 1 rfl) (st := []) rfl rfl ⟨rfl, rfl⟩ (Nat.le_of_ble_eq_true rfl) rfl (by decide) rfl (Nat.le_of_ble_eq_true rfl) ⟨Nat.le_of_ble_eq_true rfl, Nat.le_of_ble_eq_true rfl⟩ ⟨Nat.le_of_ble_eq_true rfl, Nat.le_of_ble_eq_true rfl⟩ (gAft_r rfl rfl (h' := cTx 0 ((rdT T).2)) (st' := [.int (nI ((rdT T).1))]) (pc' := 4) (cs' := 0) (ss' := 0) rfl rfl rfl rfl rfl ?_)
  refine gW_b D_Tx_readSections 2 2 (pc' := 8) (l' := [(0, .ref 0)]) (st' := [.int (nI (xLen ((rdT T).2))), .int (nI ((rdT T).1))]) (h' := cTx 0 ((rdT T).2)) (P := True) rfl trivial ?_
  refine gW_ic_lt (gdec_at D_Tx_readSections 4 rfl) (tgt := 19) rfl (fun d => ?_) (fun d => ?_)
  · have d := (glt (rfl : nI ((rdT T).1) = nI ((rdT T).1)) (rfl : nI (xLen ((rdT T).2)) = nI (xLen ((rdT T).2))) (by omega) (by omega)).mp d
    refine gW_b D_Tx_readSections 9 1 (pc' := 20) (l' := [(0, .ref 0)]) (st' := [.int 0]) (h' := cTx 0 ((rdT T).2)) (P := True) rfl trivial ?_
    rw [show rsT T = (false, (rdT T).2) from if_pos (by omega)]
    exact gW_iret (gdec_at D_Tx_readSections 10 rfl) rfl rfl (Nat.le_of_ble_eq_true rfl) ⟨rfl, rfl⟩ (Nat.le_of_ble_eq_true rfl) (Nat.le_of_ble_eq_true rfl)
  · have d := mt (glt (rfl : nI ((rdT T).1) = nI ((rdT T).1)) (rfl : nI (xLen ((rdT T).2)) = nI (xLen ((rdT T).2))) (by omega) (by omega)).mpr d
    have d2 : ¬ (rdT T).1 < xLen T := by omega
    refine gW_b D_Tx_readSections 5 3 (pc' := 16) (l' := [(0, .ref 0)]) (st' := [.int 4, .int (nI (xStg ((rdT T).2)))]) (h' := cTx 0 ((rdT T).2)) (P := True) rfl trivial ?_
    refine gW_ic_eq (gdec_at D_Tx_readSections 8 rfl) (tgt := 21) rfl (fun e => ?_) (fun e => ?_)
    · have e := (geq (rfl : nI (xStg ((rdT T).2)) = nI (xStg ((rdT T).2))) (gk 4) (by omega) (by omega)).mp e
      refine gW_b D_Tx_readSections 11 1 (pc' := 22) (l' := [(0, .ref 0)]) (st' := [.ref 0]) (h' := cTx 0 ((rdT T).2)) (P := True) rfl trivial ?_
      refine gW_callV (m_keepPart ((rdT T).2) (by assumption)) lk_Tx_42 [0, 1, 2, 3, 4] (gdec_at D_Tx_readSections 12 rfl) (st := []) rfl rfl ⟨rfl, rfl⟩ (Nat.le_of_ble_eq_true rfl) rfl (by decide) rfl (Nat.le_of_ble_eq_true rfl) ⟨Nat.le_of_ble_eq_true rfl, Nat.le_of_ble_eq_true rfl⟩ ⟨Nat.le_of_ble_eq_true rfl, Nat.le_of_ble_eq_true rfl⟩ (gAft_r rfl rfl (h' := cTx 0 (kp ((rdT T).2))) (st' := []) (pc' := 25) (cs' := 0) (ss' := 0) rfl rfl rfl rfl rfl ?_)
      refine gW_b D_Tx_readSections 13 1 (pc' := 26) (l' := [(0, .ref 0)]) (st' := [.int 1]) (h' := cTx 0 (kp ((rdT T).2))) (P := True) rfl trivial ?_
      rw [show rsT T = (true, kp (rdT T).2) from (if_neg d2).trans (if_pos e)]
      exact gW_iret (gdec_at D_Tx_readSections 14 rfl) rfl rfl (Nat.le_of_ble_eq_true rfl) ⟨rfl, rfl⟩ (Nat.le_of_ble_eq_true rfl) (Nat.le_of_ble_eq_true rfl)
    · have e := mt (geq (rfl : nI (xStg ((rdT T).2)) = nI (xStg ((rdT T).2))) (gk 4) (by omega) (by omega)).mpr e
      refine gW_b D_Tx_readSections 9 1 (pc' := 20) (l' := [(0, .ref 0)]) (st' := [.int 0]) (h' := cTx 0 ((rdT T).2)) (P := True) rfl trivial ?_
      rw [show rsT T = (false, (rdT T).2) from (if_neg d2).trans (if_neg e)]
      exact gW_iret (gdec_at D_Tx_readSections 10 rfl) rfl rfl (Nat.le_of_ble_eq_true rfl) ⟨rfl, rfl⟩ (Nat.le_of_ble_eq_true rfl) (Nat.le_of_ble_eq_true rfl)
