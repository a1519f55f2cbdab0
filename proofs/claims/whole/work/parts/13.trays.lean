/-! the static helpers of GoldSheets, and GoldSheets$Trays. Printed by wip/whole/meths1.py -/
def gFi (i : Nat) : Int32 := ([50, 120, 0, 2, 30, 10] : List Int32).getD i 0
def gLo (i : Nat) : Int32 := ([1, 10, 0, 0, 1, 0] : List Int32).getD i 0
def gHi (i : Nat) : Int32 := ([200, 500, 1, 9, 99, 99] : List Int32).getD i 0
def sum4 (f : Nat → Int32) : Int32 := 0 + f 0 + f 1 + f 2 + f 3

theorem m_valueAt (n i : Nat) (f : Nat → Int32) (hn : n ≤ 1000) (h : i < n) : gM K_Gs_valueAt { frames := 0, locals := 0, cells := 0, slots := 0 } [.ref 0, .int (nI i)] ([cI n f]) (gD (.inl (some (.int (f i)))) ([cI n f])) := by
  refine gM_of rfl rfl (Nat.le_of_ble_eq_true rfl) (fun sc => ?_)
  refine gW_b D_Gs_valueAt 0 1 (pc' := 1) (l' := [(0, .ref 0), (1, .int (nI i))]) (st' := [.int (nI i)]) (h' := [cI n f]) (P := True) rfl trivial ?_
  refine gW_if_lt (gdec_at D_Gs_valueAt 1 rfl) (tgt := 16) rfl (fun c => absurd c (nI_pos (n := i) (by omega))) (fun _ => ?_)
  refine gW_b D_Gs_valueAt 2 3 (pc' := 7) (l' := [(0, .ref 0), (1, .int (nI i))]) (st' := [.int (nI n), .int (nI i)]) (h' := [cI n f]) (P := True) rfl trivial ?_
  refine gW_ic_ge (gdec_at D_Gs_valueAt 5 rfl) (tgt := 16) rfl (fun c => absurd c (mt (gle (rfl : nI n = nI n) (rfl : nI i = nI i) (by omega) (by omega)).mp (by omega))) (fun _ => ?_)
  refine gW_b D_Gs_valueAt 6 4 (pc' := 17) (l' := [(0, .ref 0), (1, .int (nI i))]) (st' := [.int (f ((nI i).toNatClampNeg))]) (h' := [cI n f]) (P := vp_in (nI i) n ∧ True) rfl ⟨(gvin (rfl : nI i = nI i) (by omega) (by omega)), trivial⟩ ?_
  rw [show (nI i).toNatClampNeg = i from gclp (rfl : nI i = nI i) (by omega)]
  exact gW_iret (gdec_at D_Gs_valueAt 11 rfl) rfl rfl (Nat.le_of_ble_eq_true rfl) ⟨rfl, rfl⟩ (Nat.le_of_ble_eq_true rfl) (Nat.le_of_ble_eq_true rfl)

theorem m_valueLo (i : Nat) (h : i < 6) : gM K_Gs_valueAt { frames := 0, locals := 0, cells := 0, slots := 0 } [.ref 1002, .int (nI i)] ([]) (gD (.inl (some (.int (gLo i)))) ([])) := by
  refine gM_of rfl rfl (Nat.le_of_ble_eq_true rfl) (fun sc => ?_)
  refine gW_b D_Gs_valueAt 0 1 (pc' := 1) (l' := [(0, .ref 1002), (1, .int (nI i))]) (st' := [.int (nI i)]) (h' := []) (P := True) rfl trivial ?_
  refine gW_if_lt (gdec_at D_Gs_valueAt 1 rfl) (tgt := 16) rfl (fun c => absurd c (nI_pos (n := i) (by omega))) (fun _ => ?_)
  refine gW_b D_Gs_valueAt 2 3 (pc' := 7) (l' := [(0, .ref 1002), (1, .int (nI i))]) (st' := [.int 6, .int (nI i)]) (h' := []) (P := True) rfl trivial ?_
  refine gW_ic_ge (gdec_at D_Gs_valueAt 5 rfl) (tgt := 16) rfl (fun c => absurd c (mt (gle (gk 6) (rfl : nI i = nI i) (by omega) (by omega)).mp (by omega))) (fun _ => ?_)
  refine gW_b D_Gs_valueAt 6 4 (pc' := 17) (l' := [(0, .ref 1002), (1, .int (nI i))]) (st' := [.int (gLo (nI i).toNatClampNeg)]) (h' := []) (P := vp_in (nI i) 6 ∧ True) rfl ⟨(gvin (rfl : nI i = nI i) (by omega) (by omega)), trivial⟩ ?_
  rw [show (nI i).toNatClampNeg = i from gclp (rfl : nI i = nI i) (by omega)]
  exact gW_iret (gdec_at D_Gs_valueAt 11 rfl) rfl rfl (Nat.le_of_ble_eq_true rfl) ⟨rfl, rfl⟩ (Nat.le_of_ble_eq_true rfl) (Nat.le_of_ble_eq_true rfl)

theorem m_valueHi (i : Nat) (h : i < 6) : gM K_Gs_valueAt { frames := 0, locals := 0, cells := 0, slots := 0 } [.ref 1003, .int (nI i)] ([]) (gD (.inl (some (.int (gHi i)))) ([])) := by
  refine gM_of rfl rfl (Nat.le_of_ble_eq_true rfl) (fun sc => ?_)
  refine gW_b D_Gs_valueAt 0 1 (pc' := 1) (l' := [(0, .ref 1003), (1, .int (nI i))]) (st' := [.int (nI i)]) (h' := []) (P := True) rfl trivial ?_
  refine gW_if_lt (gdec_at D_Gs_valueAt 1 rfl) (tgt := 16) rfl (fun c => absurd c (nI_pos (n := i) (by omega))) (fun _ => ?_)
  refine gW_b D_Gs_valueAt 2 3 (pc' := 7) (l' := [(0, .ref 1003), (1, .int (nI i))]) (st' := [.int 6, .int (nI i)]) (h' := []) (P := True) rfl trivial ?_
  refine gW_ic_ge (gdec_at D_Gs_valueAt 5 rfl) (tgt := 16) rfl (fun c => absurd c (mt (gle (gk 6) (rfl : nI i = nI i) (by omega) (by omega)).mp (by omega))) (fun _ => ?_)
  refine gW_b D_Gs_valueAt 6 4 (pc' := 17) (l' := [(0, .ref 1003), (1, .int (nI i))]) (st' := [.int (gHi (nI i).toNatClampNeg)]) (h' := []) (P := vp_in (nI i) 6 ∧ True) rfl ⟨(gvin (rfl : nI i = nI i) (by omega) (by omega)), trivial⟩ ?_
  rw [show (nI i).toNatClampNeg = i from gclp (rfl : nI i = nI i) (by omega)]
  exact gW_iret (gdec_at D_Gs_valueAt 11 rfl) rfl rfl (Nat.le_of_ble_eq_true rfl) ⟨rfl, rfl⟩ (Nat.le_of_ble_eq_true rfl) (Nat.le_of_ble_eq_true rfl)

theorem m_addAt (n i : Nat) (f : Nat → Int32) (v : Int32) (hn : n ≤ 1000) (h : i < n) : gM K_Gs_addAt { frames := 0, locals := 0, cells := 0, slots := 0 } [.ref 0, .int (nI i), .int v] ([cI n f]) (gD (.inl none) ([cI n (upd f i (f i + v))])) := by
  refine gM_of rfl rfl (Nat.le_of_ble_eq_true rfl) (fun sc => ?_)
  refine gW_b D_Gs_addAt 0 1 (pc' := 1) (l' := [(0, .ref 0), (1, .int (nI i)), (2, .int v)]) (st' := [.int (nI i)]) (h' := [cI n f]) (P := True) rfl trivial ?_
  refine gW_if_lt (gdec_at D_Gs_addAt 1 rfl) (tgt := 17) rfl (fun c => absurd c (nI_pos (n := i) (by omega))) (fun _ => ?_)
  refine gW_b D_Gs_addAt 2 3 (pc' := 7) (l' := [(0, .ref 0), (1, .int (nI i)), (2, .int v)]) (st' := [.int (nI n), .int (nI i)]) (h' := [cI n f]) (P := True) rfl trivial ?_
  refine gW_ic_ge (gdec_at D_Gs_addAt 5 rfl) (tgt := 17) rfl (fun c => absurd c (mt (gle (rfl : nI n = nI n) (rfl : nI i = nI i) (by omega) (by omega)).mp (by omega))) (fun _ => ?_)
  refine gW_b D_Gs_addAt 6 7 (pc' := 17) (l' := [(0, .ref 0), (1, .int (nI i)), (2, .int v)]) (st' := []) (h' := [cI n (upd f ((nI i).toNatClampNeg) ((f ((nI i).toNatClampNeg)) + v))]) (P := vp_in (nI i) n ∧ vp_in (nI i) n ∧ True) rfl ⟨(gvin (rfl : nI i = nI i) (by omega) (by omega)), (gvin (rfl : nI i = nI i) (by omega) (by omega)), trivial⟩ ?_
  rw [show (nI i).toNatClampNeg = i from gclp (rfl : nI i = nI i) (by omega)]
  exact gW_vret (gdec_at D_Gs_addAt 13 rfl) rfl (Nat.le_of_ble_eq_true rfl) ⟨rfl, rfl⟩ (Nat.le_of_ble_eq_true rfl) (Nat.le_of_ble_eq_true rfl)

theorem m_sumOf (f : Nat → Int32) : gM K_Gs_sumOf { frames := 0, locals := 0, cells := 0, slots := 0 } [.ref 0] ([cI 4 f]) (gD (.inl (some (.int (sum4 f)))) ([cI 4 f])) := by
  refine gM_of rfl rfl (Nat.le_of_ble_eq_true rfl) (fun sc => ?_)
  refine gW_b D_Gs_sumOf 0 11 (pc' := 13) (l' := [(0, .ref 0), (1, .int 0), (2, .ref 0), (3, .int 4), (4, .int 0)]) (st' := [.int 4, .int 0]) (h' := [cI 4 f]) (P := True) rfl trivial ?_
  refine gW_ic_ge (gdec_at D_Gs_sumOf 11 rfl) (tgt := 33) rfl (fun c => absurd c (by decide)) (fun _ => ?_)
  refine gW_b D_Gs_sumOf 12 10 (pc' := 10) (l' := [(0, .ref 0), (1, .int (0 + (f 0))), (2, .ref 0), (3, .int 4), (4, .int 1), (5, .int (f 0))]) (st' := []) (h' := [cI 4 f]) (P := vp_in 0 4 ∧ True) rfl ⟨(gvl 0 4 (by omega) (by omega)), trivial⟩ ?_
  refine gW_b D_Gs_sumOf 9 2 (pc' := 13) (l' := [(0, .ref 0), (1, .int (0 + (f 0))), (2, .ref 0), (3, .int 4), (4, .int 1), (5, .int (f 0))]) (st' := [.int 4, .int 1]) (h' := [cI 4 f]) (P := True) rfl trivial ?_
  refine gW_ic_ge (gdec_at D_Gs_sumOf 11 rfl) (tgt := 33) rfl (fun c => absurd c (by decide)) (fun _ => ?_)
  refine gW_b D_Gs_sumOf 12 10 (pc' := 10) (l' := [(0, .ref 0), (1, .int ((0 + (f 0)) + (f 1))), (2, .ref 0), (3, .int 4), (4, .int 2), (5, .int (f 1))]) (st' := []) (h' := [cI 4 f]) (P := vp_in 1 4 ∧ True) rfl ⟨(gvl 1 4 (by omega) (by omega)), trivial⟩ ?_
  refine gW_b D_Gs_sumOf 9 2 (pc' := 13) (l' := [(0, .ref 0), (1, .int ((0 + (f 0)) + (f 1))), (2, .ref 0), (3, .int 4), (4, .int 2), (5, .int (f 1))]) (st' := [.int 4, .int 2]) (h' := [cI 4 f]) (P := True) rfl trivial ?_
  refine gW_ic_ge (gdec_at D_Gs_sumOf 11 rfl) (tgt := 33) rfl (fun c => absurd c (by decide)) (fun _ => ?_)
  refine gW_b D_Gs_sumOf 12 10 (pc' := 10) (l' := [(0, .ref 0), (1, .int (((0 + (f 0)) + (f 1)) + (f 2))), (2, .ref 0), (3, .int 4), (4, .int 3), (5, .int (f 2))]) (st' := []) (h' := [cI 4 f]) (P := vp_in 2 4 ∧ True) rfl ⟨(gvl 2 4 (by omega) (by omega)), trivial⟩ ?_
  refine gW_b D_Gs_sumOf 9 2 (pc' := 13) (l' := [(0, .ref 0), (1, .int (((0 + (f 0)) + (f 1)) + (f 2))), (2, .ref 0), (3, .int 4), (4, .int 3), (5, .int (f 2))]) (st' := [.int 4, .int 3]) (h' := [cI 4 f]) (P := True) rfl trivial ?_
  refine gW_ic_ge (gdec_at D_Gs_sumOf 11 rfl) (tgt := 33) rfl (fun c => absurd c (by decide)) (fun _ => ?_)
  refine gW_b D_Gs_sumOf 12 10 (pc' := 10) (l' := [(0, .ref 0), (1, .int ((((0 + (f 0)) + (f 1)) + (f 2)) + (f 3))), (2, .ref 0), (3, .int 4), (4, .int 4), (5, .int (f 3))]) (st' := []) (h' := [cI 4 f]) (P := vp_in 3 4 ∧ True) rfl ⟨(gvl 3 4 (by omega) (by omega)), trivial⟩ ?_
  refine gW_b D_Gs_sumOf 9 2 (pc' := 13) (l' := [(0, .ref 0), (1, .int ((((0 + (f 0)) + (f 1)) + (f 2)) + (f 3))), (2, .ref 0), (3, .int 4), (4, .int 4), (5, .int (f 3))]) (st' := [.int 4, .int 4]) (h' := [cI 4 f]) (P := True) rfl trivial ?_
  refine gW_ic_ge (gdec_at D_Gs_sumOf 11 rfl) (tgt := 33) rfl (fun _ => ?_) (fun c => absurd (by decide) c)
  refine gW_b D_Gs_sumOf 22 1 (pc' := 34) (l' := [(0, .ref 0), (1, .int ((((0 + (f 0)) + (f 1)) + (f 2)) + (f 3))), (2, .ref 0), (3, .int 4), (4, .int 4), (5, .int (f 3))]) (st' := [.int ((((0 + (f 0)) + (f 1)) + (f 2)) + (f 3))]) (h' := [cI 4 f]) (P := True) rfl trivial ?_
  exact gW_iret (gdec_at D_Gs_sumOf 23 rfl) rfl rfl (Nat.le_of_ble_eq_true rfl) ⟨rfl, rfl⟩ (Nat.le_of_ble_eq_true rfl) (Nat.le_of_ble_eq_true rfl)

theorem m_copyRow (n : Nat) (f g : Nat → Int32) (hn : n ≤ 1000) : gM K_Gs_copyRow { frames := 1, locals := 40, cells := 0, slots := 0 } [.ref 0, .ref 1] ([cI n f, cI n g]) (gD (.inl none) ([cI n f, cI n f])) := by
  refine gM_of rfl rfl (Nat.le_of_ble_eq_true rfl) (fun sc => ?_)
  refine gW_b D_Gs_copyRow 0 8 (pc' := 8) (l' := [(0, .ref 0), (1, .ref 1)]) (st' := [.int (nI n), .int (nI n), .int 0, .ref 1, .int 0, .ref 0]) (h' := [cI n f, cI n g]) (P := True) rfl trivial ?_
  refine gW_min (gmem 134 (by decide +kernel)) (gdec_at D_Gs_copyRow 8 rfl) (Nat.le_of_ble_eq_true rfl) (Nat.le_of_ble_eq_true rfl) (Nat.le_of_ble_eq_true rfl) (Nat.le_of_ble_eq_true rfl) ?_
  rw [show (if nI n < nI n then nI n else nI n : Int32) = nI n from (if_neg Int32.lt_irrefl)]
  refine gW_copy (gmem 137 (by decide +kernel)) (gdec_at D_Gs_copyRow 9 rfl) rfl rfl rfl (by omega) (Nat.le_of_ble_eq_true rfl) (Nat.le_of_ble_eq_true rfl) ?_
  exact gW_vret (gdec_at D_Gs_copyRow 10 rfl) rfl (Nat.le_of_ble_eq_true rfl) ⟨rfl, rfl⟩ (Nat.le_of_ble_eq_true rfl) (Nat.le_of_ble_eq_true rfl)

theorem m_copyFi (g : Nat → Int32) : gM K_Gs_copyRow { frames := 1, locals := 40, cells := 0, slots := 0 } [.ref 1001, .ref 0] ([cI 6 g]) (gD (.inl none) ([cI 6 gFi])) := by
  refine gM_of rfl rfl (Nat.le_of_ble_eq_true rfl) (fun sc => ?_)
  refine gW_b D_Gs_copyRow 0 8 (pc' := 8) (l' := [(0, .ref 1001), (1, .ref 0)]) (st' := [.int 6, .int 6, .int 0, .ref 0, .int 0, .ref 1001]) (h' := [cI 6 g]) (P := True) rfl trivial ?_
  refine gW_min (gmem 134 (by decide +kernel)) (gdec_at D_Gs_copyRow 8 rfl) (Nat.le_of_ble_eq_true rfl) (Nat.le_of_ble_eq_true rfl) (Nat.le_of_ble_eq_true rfl) (Nat.le_of_ble_eq_true rfl) ?_
  rw [show (if (6 : Int32) < (6 : Int32) then (6 : Int32) else (6 : Int32) : Int32) = 6 from (if_neg Int32.lt_irrefl)]
  refine gW_copyX (b := 1) (gmem 137 (by decide +kernel)) (gdec_at D_Gs_copyRow 9 rfl) (by decide) rfl rfl rfl (by decide) (Nat.le_of_ble_eq_true rfl) (Nat.le_of_ble_eq_true rfl) ?_
  exact gW_vret (gdec_at D_Gs_copyRow 10 rfl) rfl (Nat.le_of_ble_eq_true rfl) ⟨rfl, rfl⟩ (Nat.le_of_ble_eq_true rfl) (Nat.le_of_ble_eq_true rfl)
abbrev cTr (f : Nat → Int32) : gH := [cO 0 [.ref 1], cI 24 f]

theorem m_held (f : Nat → Int32) (a t : Nat) (ha : a < 6) (ht : t < 4) : gM K_Tr_held { frames := 0, locals := 0, cells := 0, slots := 0 } [.ref 0, .int (nI a), .int (nI t)] (cTr f) (gD (.inl (some (.int (f (a * 4 + t))))) (cTr f)) := by
  refine gM_of rfl rfl (Nat.le_of_ble_eq_true rfl) (fun sc => ?_)
  refine gW_b D_Tr_held 0 1 (pc' := 1) (l' := [(0, .ref 0), (1, .int (nI a)), (2, .int (nI t))]) (st' := [.int (nI a)]) (h' := cTr f) (P := True) rfl trivial ?_
  refine gW_if_lt (gdec_at D_Tr_held 1 rfl) (tgt := 23) rfl (fun c => absurd c (nI_pos (n := a) (by omega))) (fun _ => ?_)
  refine gW_b D_Tr_held 2 2 (pc' := 7) (l' := [(0, .ref 0), (1, .int (nI a)), (2, .int (nI t))]) (st' := [.int 6, .int (nI a)]) (h' := cTr f) (P := True) rfl trivial ?_
  refine gW_ic_ge (gdec_at D_Tr_held 4 rfl) (tgt := 23) rfl (fun c => absurd c (mt (gle (gk 6) (rfl : nI a = nI a) (by omega) (by omega)).mp (by omega))) (fun _ => ?_)
  refine gW_b D_Tr_held 5 1 (pc' := 11) (l' := [(0, .ref 0), (1, .int (nI a)), (2, .int (nI t))]) (st' := [.int (nI t)]) (h' := cTr f) (P := True) rfl trivial ?_
  refine gW_if_lt (gdec_at D_Tr_held 6 rfl) (tgt := 23) rfl (fun c => absurd c (nI_pos (n := t) (by omega))) (fun _ => ?_)
  refine gW_b D_Tr_held 7 2 (pc' := 16) (l' := [(0, .ref 0), (1, .int (nI a)), (2, .int (nI t))]) (st' := [.int 4, .int (nI t)]) (h' := cTr f) (P := True) rfl trivial ?_
  refine gW_ic_ge (gdec_at D_Tr_held 9 rfl) (tgt := 23) rfl (fun c => absurd c (mt (gle (gk 4) (rfl : nI t = nI t) (by omega) (by omega)).mp (by omega))) (fun _ => ?_)
  refine gW_b D_Tr_held 10 2 (pc' := 24) (l' := [(0, .ref 0), (1, .int (nI a)), (2, .int (nI t))]) (st' := [.int 1]) (h' := cTr f) (P := True) rfl trivial ?_
  refine gW_b D_Tr_held 13 2 (pc' := 26) (l' := [(0, .ref 0), (1, .int (nI a)), (2, .int (nI t)), (3, .int 1)]) (st' := [.int 1]) (h' := cTr f) (P := True) rfl trivial ?_
  refine gW_if_eq (gdec_at D_Tr_held 15 rfl) (tgt := 42) rfl (fun c => absurd c (by decide)) (fun _ => ?_)
  refine gW_b D_Tr_held 16 9 (pc' := 43) (l' := [(0, .ref 0), (1, .int (nI a)), (2, .int (nI t)), (3, .int 1)]) (st' := [.int (f ((((nI a) * 4) + (nI t)).toNatClampNeg))]) (h' := cTr f) (P := vp_in (((nI a) * 4) + (nI t)) 24 ∧ True) rfl ⟨(gvin (gadd (gmul (rfl : nI a = nI a) (gk 4)) (rfl : nI t = nI t)) (by omega) (by omega)), trivial⟩ ?_
  rw [show (((nI a) * 4) + (nI t)).toNatClampNeg = ((a * 4) + t) from gclp (gadd (gmul (rfl : nI a = nI a) (gk 4)) (rfl : nI t = nI t)) (by omega)]
  exact gW_iret (gdec_at D_Tr_held 26 rfl) rfl rfl (Nat.le_of_ble_eq_true rfl) ⟨rfl, rfl⟩ (Nat.le_of_ble_eq_true rfl) (Nat.le_of_ble_eq_true rfl)

theorem m_change (f : Nat → Int32) (a t : Nat) (v : Int32) (ha : a < 6) (ht : t < 4) : gM K_Tr_change { frames := 0, locals := 0, cells := 0, slots := 0 } [.ref 0, .int (nI a), .int (nI t), .int v] (cTr f) (gD (.inl none) (cTr (upd f (a * 4 + t) (f (a * 4 + t) + v)))) := by
  refine gM_of rfl rfl (Nat.le_of_ble_eq_true rfl) (fun sc => ?_)
  refine gW_b D_Tr_change 0 1 (pc' := 1) (l' := [(0, .ref 0), (1, .int (nI a)), (2, .int (nI t)), (3, .int v)]) (st' := [.int (nI a)]) (h' := cTr f) (P := True) rfl trivial ?_
  refine gW_if_lt (gdec_at D_Tr_change 1 rfl) (tgt := 33) rfl (fun c => absurd c (nI_pos (n := a) (by omega))) (fun _ => ?_)
  refine gW_b D_Tr_change 2 2 (pc' := 7) (l' := [(0, .ref 0), (1, .int (nI a)), (2, .int (nI t)), (3, .int v)]) (st' := [.int 6, .int (nI a)]) (h' := cTr f) (P := True) rfl trivial ?_
  refine gW_ic_ge (gdec_at D_Tr_change 4 rfl) (tgt := 33) rfl (fun c => absurd c (mt (gle (gk 6) (rfl : nI a = nI a) (by omega) (by omega)).mp (by omega))) (fun _ => ?_)
  refine gW_b D_Tr_change 5 1 (pc' := 11) (l' := [(0, .ref 0), (1, .int (nI a)), (2, .int (nI t)), (3, .int v)]) (st' := [.int (nI t)]) (h' := cTr f) (P := True) rfl trivial ?_
  refine gW_if_lt (gdec_at D_Tr_change 6 rfl) (tgt := 33) rfl (fun c => absurd c (nI_pos (n := t) (by omega))) (fun _ => ?_)
  refine gW_b D_Tr_change 7 2 (pc' := 16) (l' := [(0, .ref 0), (1, .int (nI a)), (2, .int (nI t)), (3, .int v)]) (st' := [.int 4, .int (nI t)]) (h' := cTr f) (P := True) rfl trivial ?_
  refine gW_ic_ge (gdec_at D_Tr_change 9 rfl) (tgt := 33) rfl (fun c => absurd c (mt (gle (gk 4) (rfl : nI t = nI t) (by omega) (by omega)).mp (by omega))) (fun _ => ?_)
  refine gW_b D_Tr_change 10 12 (pc' := 33) (l' := [(0, .ref 0), (1, .int (nI a)), (2, .int (nI t)), (3, .int v)]) (st' := []) (h' := cTr (upd f ((((nI a) * 4) + (nI t)).toNatClampNeg) ((f ((((nI a) * 4) + (nI t)).toNatClampNeg)) + v))) (P := vp_in (((nI a) * 4) + (nI t)) 24 ∧ vp_in (((nI a) * 4) + (nI t)) 24 ∧ True) rfl ⟨(gvin (gadd (gmul (rfl : nI a = nI a) (gk 4)) (rfl : nI t = nI t)) (by omega) (by omega)), (gvin (gadd (gmul (rfl : nI a = nI a) (gk 4)) (rfl : nI t = nI t)) (by omega) (by omega)), trivial⟩ ?_
  rw [show (((nI a) * 4) + (nI t)).toNatClampNeg = ((a * 4) + t) from gclp (gadd (gmul (rfl : nI a = nI a) (gk 4)) (rfl : nI t = nI t)) (by omega)]
  exact gW_vret (gdec_at D_Tr_change 22 rfl) rfl (Nat.le_of_ble_eq_true rfl) ⟨rfl, rfl⟩ (Nat.le_of_ble_eq_true rfl) (Nat.le_of_ble_eq_true rfl)
def hA (f : Nat → Int32) (a : Nat) : Int32 := 0 + f (a * 4 + 0) + f (a * 4 + 1) + f (a * 4 + 2) + f (a * 4 + 3)

theorem m_heldInAll (f : Nat → Int32) (a : Nat) (ha : a < 6) : gM K_Tr_heldInAll { frames := 1, locals := 23, cells := 0, slots := 0 } [.ref 0, .int (nI a)] (cTr f) (gD (.inl (some (.int (hA f a)))) (cTr f)) := by
  refine gM_of rfl rfl (Nat.le_of_ble_eq_true rfl) (fun sc => ?_)
  refine gW_b D_Tr_heldInAll 0 6 (pc' := 6) (l' := [(0, .ref 0), (1, .int (nI a)), (2, .int 0), (3, .int 0)]) (st' := [.int 4, .int 0]) (h' := cTr f) (P := True) rfl trivial ?_
  refine gW_ic_ge (gdec_at D_Tr_heldInAll 6 rfl) (tgt := 24) rfl (fun c => absurd c (by decide)) (fun _ => ?_)
  refine gW_b D_Tr_heldInAll 7 4 (pc' := 13) (l' := [(0, .ref 0), (1, .int (nI a)), (2, .int 0), (3, .int 0)]) (st' := [.int 0, .int (nI a), .ref 0, .int 0]) (h' := cTr f) (P := True) rfl trivial ?_
  refine gW_callV (m_held f a 0 (by omega) (by omega)) lk_Tr_19 [0, 1] (gdec_at D_Tr_heldInAll 11 rfl) (st := [.int 0]) rfl rfl ⟨rfl, rfl⟩ (Nat.le_of_ble_eq_true rfl) rfl (by decide) rfl (Nat.le_of_ble_eq_true rfl) ⟨Nat.le_of_ble_eq_true rfl, Nat.le_of_ble_eq_true rfl⟩ ⟨Nat.le_of_ble_eq_true rfl, Nat.le_of_ble_eq_true rfl⟩ (gAft_r rfl rfl (h' := cTr f) (st' := [.int (f (a * 4 + 0)), .int 0]) (pc' := 16) (cs' := 0) (ss' := 0) rfl rfl rfl rfl rfl ?_)
  refine gW_b D_Tr_heldInAll 12 4 (pc' := 4) (l' := [(0, .ref 0), (1, .int (nI a)), (2, .int (0 + (f (a * 4 + 0)))), (3, .int 1)]) (st' := []) (h' := cTr f) (P := True) rfl trivial ?_
  refine gW_b D_Tr_heldInAll 4 2 (pc' := 6) (l' := [(0, .ref 0), (1, .int (nI a)), (2, .int (0 + (f (a * 4 + 0)))), (3, .int 1)]) (st' := [.int 4, .int 1]) (h' := cTr f) (P := True) rfl trivial ?_
  refine gW_ic_ge (gdec_at D_Tr_heldInAll 6 rfl) (tgt := 24) rfl (fun c => absurd c (by decide)) (fun _ => ?_)
  refine gW_b D_Tr_heldInAll 7 4 (pc' := 13) (l' := [(0, .ref 0), (1, .int (nI a)), (2, .int (0 + (f (a * 4 + 0)))), (3, .int 1)]) (st' := [.int 1, .int (nI a), .ref 0, .int (0 + (f (a * 4 + 0)))]) (h' := cTr f) (P := True) rfl trivial ?_
  refine gW_callV (m_held f a 1 (by omega) (by omega)) lk_Tr_19 [0, 1] (gdec_at D_Tr_heldInAll 11 rfl) (st := [.int (0 + (f (a * 4 + 0)))]) rfl rfl ⟨rfl, rfl⟩ (Nat.le_of_ble_eq_true rfl) rfl (by decide) rfl (Nat.le_of_ble_eq_true rfl) ⟨Nat.le_of_ble_eq_true rfl, Nat.le_of_ble_eq_true rfl⟩ ⟨Nat.le_of_ble_eq_true rfl, Nat.le_of_ble_eq_true rfl⟩ (gAft_r rfl rfl (h' := cTr f) (st' := [.int (f (a * 4 + 1)), .int (0 + (f (a * 4 + 0)))]) (pc' := 16) (cs' := 0) (ss' := 0) rfl rfl rfl rfl rfl ?_)
  refine gW_b D_Tr_heldInAll 12 4 (pc' := 4) (l' := [(0, .ref 0), (1, .int (nI a)), (2, .int ((0 + (f (a * 4 + 0))) + (f (a * 4 + 1)))), (3, .int 2)]) (st' := []) (h' := cTr f) (P := True) rfl trivial ?_
  refine gW_b D_Tr_heldInAll 4 2 (pc' := 6) (l' := [(0, .ref 0), (1, .int (nI a)), (2, .int ((0 + (f (a * 4 + 0))) + (f (a * 4 + 1)))), (3, .int 2)]) (st' := [.int 4, .int 2]) (h' := cTr f) (P := True) rfl trivial ?_
  refine gW_ic_ge (gdec_at D_Tr_heldInAll 6 rfl) (tgt := 24) rfl (fun c => absurd c (by decide)) (fun _ => ?_)
  refine gW_b D_Tr_heldInAll 7 4 (pc' := 13) (l' := [(0, .ref 0), (1, .int (nI a)), (2, .int ((0 + (f (a * 4 + 0))) + (f (a * 4 + 1)))), (3, .int 2)]) (st' := [.int 2, .int (nI a), .ref 0, .int ((0 + (f (a * 4 + 0))) + (f (a * 4 + 1)))]) (h' := cTr f) (P := True) rfl trivial ?_
  refine gW_callV (m_held f a 2 (by omega) (by omega)) lk_Tr_19 [0, 1] (gdec_at D_Tr_heldInAll 11 rfl) (st := [.int ((0 + (f (a * 4 + 0))) + (f (a * 4 + 1)))]) rfl rfl ⟨rfl, rfl⟩ (Nat.le_of_ble_eq_true rfl) rfl (by decide) rfl (Nat.le_of_ble_eq_true rfl) ⟨Nat.le_of_ble_eq_true rfl, Nat.le_of_ble_eq_true rfl⟩ ⟨Nat.le_of_ble_eq_true rfl, Nat.le_of_ble_eq_true rfl⟩ (gAft_r rfl rfl (h' := cTr f) (st' := [.int (f (a * 4 + 2)), .int ((0 + (f (a * 4 + 0))) + (f (a * 4 + 1)))]) (pc' := 16) (cs' := 0) (ss' := 0) rfl rfl rfl rfl rfl ?_)
  refine gW_b D_Tr_heldInAll 12 4 (pc' := 4) (l' := [(0, .ref 0), (1, .int (nI a)), (2, .int (((0 + (f (a * 4 + 0))) + (f (a * 4 + 1))) + (f (a * 4 + 2)))), (3, .int 3)]) (st' := []) (h' := cTr f) (P := True) rfl trivial ?_
  refine gW_b D_Tr_heldInAll 4 2 (pc' := 6) (l' := [(0, .ref 0), (1, .int (nI a)), (2, .int (((0 + (f (a * 4 + 0))) + (f (a * 4 + 1))) + (f (a * 4 + 2)))), (3, .int 3)]) (st' := [.int 4, .int 3]) (h' := cTr f) (P := True) rfl trivial ?_
  refine gW_ic_ge (gdec_at D_Tr_heldInAll 6 rfl) (tgt := 24) rfl (fun c => absurd c (by decide)) (fun _ => ?_)
  refine gW_b D_Tr_heldInAll 7 4 (pc' := 13) (l' := [(0, .ref 0), (1, .int (nI a)), (2, .int (((0 + (f (a * 4 + 0))) + (f (a * 4 + 1))) + (f (a * 4 + 2)))), (3, .int 3)]) (st' := [.int 3, .int (nI a), .ref 0, .int (((0 + (f (a * 4 + 0))) + (f (a * 4 + 1))) + (f (a * 4 + 2)))]) (h' := cTr f) (P := True) rfl trivial ?_
  refine gW_callV (m_held f a 3 (by omega) (by omega)) lk_Tr_19 [0, 1] (gdec_at D_Tr_heldInAll 11 rfl) (st := [.int (((0 + (f (a * 4 + 0))) + (f (a * 4 + 1))) + (f (a * 4 + 2)))]) rfl rfl ⟨rfl, rfl⟩ (Nat.le_of_ble_eq_true rfl) rfl (by decide) rfl (Nat.le_of_ble_eq_true rfl) ⟨Nat.le_of_ble_eq_true rfl, Nat.le_of_ble_eq_true rfl⟩ ⟨Nat.le_of_ble_eq_true rfl, Nat.le_of_ble_eq_true rfl⟩ (gAft_r rfl rfl (h' := cTr f) (st' := [.int (f (a * 4 + 3)), .int (((0 + (f (a * 4 + 0))) + (f (a * 4 + 1))) + (f (a * 4 + 2)))]) (pc' := 16) (cs' := 0) (ss' := 0) rfl rfl rfl rfl rfl ?_)
  refine gW_b D_Tr_heldInAll 12 4 (pc' := 4) (l' := [(0, .ref 0), (1, .int (nI a)), (2, .int ((((0 + (f (a * 4 + 0))) + (f (a * 4 + 1))) + (f (a * 4 + 2))) + (f (a * 4 + 3)))), (3, .int 4)]) (st' := []) (h' := cTr f) (P := True) rfl trivial ?_
  refine gW_b D_Tr_heldInAll 4 2 (pc' := 6) (l' := [(0, .ref 0), (1, .int (nI a)), (2, .int ((((0 + (f (a * 4 + 0))) + (f (a * 4 + 1))) + (f (a * 4 + 2))) + (f (a * 4 + 3)))), (3, .int 4)]) (st' := [.int 4, .int 4]) (h' := cTr f) (P := True) rfl trivial ?_
  refine gW_ic_ge (gdec_at D_Tr_heldInAll 6 rfl) (tgt := 24) rfl (fun _ => ?_) (fun c => absurd (by decide) c)
  refine gW_b D_Tr_heldInAll 16 1 (pc' := 25) (l' := [(0, .ref 0), (1, .int (nI a)), (2, .int ((((0 + (f (a * 4 + 0))) + (f (a * 4 + 1))) + (f (a * 4 + 2))) + (f (a * 4 + 3)))), (3, .int 4)]) (st' := [.int ((((0 + (f (a * 4 + 0))) + (f (a * 4 + 1))) + (f (a * 4 + 2))) + (f (a * 4 + 3)))]) (h' := cTr f) (P := True) rfl trivial ?_
  exact gW_iret (gdec_at D_Tr_heldInAll 17 rfl) rfl rfl (Nat.le_of_ble_eq_true rfl) ⟨rfl, rfl⟩ (Nat.le_of_ble_eq_true rfl) (Nat.le_of_ble_eq_true rfl)
def frI (f : Nat → Int32) (a : Nat) (r : Int32) : Int32 := if 0 < r - hA f a then r - hA f a else 0

theorem m_freeIn (f : Nat → Int32) (a : Nat) (r : Int32) (ha : a < 6) : gM K_Tr_freeIn { frames := 2, locals := 46, cells := 0, slots := 0 } [.ref 0, .int (nI a), .int r] (cTr f) (gD (.inl (some (.int (frI f a r)))) (cTr f)) := by
  refine gM_of rfl rfl (Nat.le_of_ble_eq_true rfl) (fun sc => ?_)
  refine gW_b D_Tr_freeIn 0 4 (pc' := 4) (l' := [(0, .ref 0), (1, .int (nI a)), (2, .int r)]) (st' := [.int (nI a), .ref 0, .int r, .int 0]) (h' := cTr f) (P := True) rfl trivial ?_
  refine gW_callV (m_heldInAll f a (by omega)) lk_Tr_23 [0, 1] (gdec_at D_Tr_freeIn 4 rfl) (st := [.int r, .int 0]) rfl rfl ⟨rfl, rfl⟩ (Nat.le_of_ble_eq_true rfl) rfl (by decide) rfl (Nat.le_of_ble_eq_true rfl) ⟨Nat.le_of_ble_eq_true rfl, Nat.le_of_ble_eq_true rfl⟩ ⟨Nat.le_of_ble_eq_true rfl, Nat.le_of_ble_eq_true rfl⟩ (gAft_r rfl rfl (h' := cTr f) (st' := [.int (hA f a), .int r, .int 0]) (pc' := 7) (cs' := 0) (ss' := 0) rfl rfl rfl rfl rfl ?_)
  refine gW_b D_Tr_freeIn 5 1 (pc' := 8) (l' := [(0, .ref 0), (1, .int (nI a)), (2, .int r)]) (st' := [.int (r - (hA f a)), .int 0]) (h' := cTr f) (P := True) rfl trivial ?_
  refine gW_max (gmem 696 (by decide +kernel)) (gdec_at D_Tr_freeIn 6 rfl) (Nat.le_of_ble_eq_true rfl) (Nat.le_of_ble_eq_true rfl) (Nat.le_of_ble_eq_true rfl) (Nat.le_of_ble_eq_true rfl) ?_
  exact gW_iret (gdec_at D_Tr_freeIn 7 rfl) rfl rfl (Nat.le_of_ble_eq_true rfl) ⟨rfl, rfl⟩ (Nat.le_of_ble_eq_true rfl) (Nat.le_of_ble_eq_true rfl)
/-- of the first i tones of tray a: how many it has -/
def tnc (f : Nat → Int32) (a : Nat) : Nat → Nat
  | 0 => 0
  | i + 1 => if f (a * 4 + i) ≤ 0 then tnc f a i else tnc f a i + 1
theorem tnc_le (f : Nat → Int32) (a : Nat) : ∀ i, tnc f a i ≤ i
  | 0 => Nat.le_refl _
  | i + 1 => by
    have := tnc_le f a i
    unfold tnc
    split <;> omega
def tn (f : Nat → Int32) (a : Nat) : Nat := tnc f a 4
theorem tn_le (f : Nat → Int32) (a : Nat) : tn f a ≤ 4 := tnc_le f a 4
theorem l_tonesIn (f : Nat → Int32) (a : Nat) (ha : a < 6) {sc : Nat × (Nat → Int32)} {n0 : Nat} {E : gO → gH → Prop} (kk : gW K_Tr_tonesIn sc { frames := 0, locals := 0, cells := 0, slots := 0 } n0 E 0 0 43 [(0, .ref 0), (1, .int (nI a)), (2, .int (nI (tnc f a 4))), (3, .int (nI 4))] [] (cTr f)) : ∀ (n i : Nat), i + n = 4 → gW K_Tr_tonesIn sc { frames := 0, locals := 0, cells := 0, slots := 0 } n0 E 0 0 16 [(0, .ref 0), (1, .int (nI a)), (2, .int (nI (tnc f a i))), (3, .int (nI i))] [] (cTr f) := by
  intro n
  induction n with
  | zero =>
    intro i hi
    obtain rfl : i = 4 := by omega
    refine gW_b D_Tr_tonesIn 11 2 (pc' := 18) (l' := [(0, .ref 0), (1, .int (nI a)), (2, .int (nI (tnc f a 4))), (3, .int (nI 4))]) (st' := [.int 4, .int (nI 4)]) (h' := cTr f) (P := True) rfl trivial ?_
    refine gW_ic_ge (gdec_at D_Tr_tonesIn 13 rfl) (tgt := 43) rfl (fun _ => ?_) (fun c => absurd ((gle (gk 4) (rfl : nI 4 = nI 4) (by omega) (by omega)).mpr (by omega)) c)
    exact kk
  | succ n ih =>
    intro i hi
    refine gW_b D_Tr_tonesIn 11 2 (pc' := 18) (l' := [(0, .ref 0), (1, .int (nI a)), (2, .int (nI (tnc f a i))), (3, .int (nI i))]) (st' := [.int 4, .int (nI i)]) (h' := cTr f) (P := True) rfl trivial ?_
    refine gW_ic_ge (gdec_at D_Tr_tonesIn 13 rfl) (tgt := 43) rfl (fun c => absurd c (mt (gle (gk 4) (rfl : nI i = nI i) (by omega) (by omega)).mp (by omega))) (fun _ => ?_)
    have hb := tnc_le f a i
    refine gW_b D_Tr_tonesIn 14 8 (pc' := 31) (l' := [(0, .ref 0), (1, .int (nI a)), (2, .int (nI (tnc f a i))), (3, .int (nI i))]) (st' := [.int (f ((((nI a) * 4) + (nI i)).toNatClampNeg))]) (h' := cTr f) (P := vp_in (((nI a) * 4) + (nI i)) 24 ∧ True) rfl ⟨(gvin (gadd (gmul (rfl : nI a = nI a) (gk 4)) (rfl : nI i = nI i)) (by omega) (by omega)), trivial⟩ ?_
    rw [show (((nI a) * 4) + (nI i)).toNatClampNeg = ((a * 4) + i) from gclp (gadd (gmul (rfl : nI a = nI a) (gk 4)) (rfl : nI i = nI i)) (by omega)]
    refine gW_if_le (gdec_at D_Tr_tonesIn 22 rfl) (tgt := 37) rfl (fun c => ?_) (fun c => ?_)
    · skip
      refine gW_b D_Tr_tonesIn 24 2 (pc' := 16) (l' := [(0, .ref 0), (1, .int (nI a)), (2, .int (nI (tnc f a i))), (3, .int ((nI i) + 1))]) (st' := []) (h' := cTr f) (P := True) rfl trivial ?_
      rw [show ((nI i) + 1 : Int32) = nI (i + 1) from (gadd (rfl : nI i = nI i) (gk 1))]
      rw [show tnc f a i = tnc f a (i + 1) from (if_pos c).symm]
      exact ih (i + 1) (by omega)
    · skip
      refine gW_b D_Tr_tonesIn 23 3 (pc' := 16) (l' := [(0, .ref 0), (1, .int (nI a)), (2, .int ((nI (tnc f a i)) + 1)), (3, .int ((nI i) + 1))]) (st' := []) (h' := cTr f) (P := True) rfl trivial ?_
      rw [show ((nI (tnc f a i)) + 1 : Int32) = nI ((tnc f a i) + 1) from (gadd (rfl : nI (tnc f a i) = nI (tnc f a i)) (gk 1))]
      rw [show ((nI i) + 1 : Int32) = nI (i + 1) from (gadd (rfl : nI i = nI i) (gk 1))]
      rw [show tnc f a i + 1 = tnc f a (i + 1) from (if_neg c).symm]
      exact ih (i + 1) (by omega)
theorem m_tonesIn (f : Nat → Int32) (a : Nat) (ha : a < 6) : gM K_Tr_tonesIn { frames := 0, locals := 0, cells := 0, slots := 0 } [.ref 0, .int (nI a)] (cTr f) (gD (.inl (some (.int (nI (tn f a))))) (cTr f)) := by
  refine gM_of rfl rfl (Nat.le_of_ble_eq_true rfl) (fun sc => ?_)
  refine gW_b D_Tr_tonesIn 0 1 (pc' := 1) (l' := [(0, .ref 0), (1, .int (nI a))]) (st' := [.int (nI a)]) (h' := cTr f) (P := True) rfl trivial ?_
  refine gW_if_lt (gdec_at D_Tr_tonesIn 1 rfl) (tgt := 10) rfl (fun c => absurd c (nI_pos (n := a) (by omega))) (fun _ => ?_)
  refine gW_b D_Tr_tonesIn 2 2 (pc' := 7) (l' := [(0, .ref 0), (1, .int (nI a))]) (st' := [.int 6, .int (nI a)]) (h' := cTr f) (P := True) rfl trivial ?_
  refine gW_ic_lt (gdec_at D_Tr_tonesIn 4 rfl) (tgt := 12) rfl (fun _ => ?_) (fun c => absurd ((glt (rfl : nI a = nI a) (gk 6) (by omega) (by omega)).mpr (by omega)) c)
  refine gW_b D_Tr_tonesIn 7 4 (pc' := 16) (l' := [(0, .ref 0), (1, .int (nI a)), (2, .int 0), (3, .int 0)]) (st' := []) (h' := cTr f) (P := True) rfl trivial ?_
  refine l_tonesIn f a ha ?_ 4 0 rfl
  refine gW_b D_Tr_tonesIn 26 1 (pc' := 44) (l' := [(0, .ref 0), (1, .int (nI a)), (2, .int (nI (tnc f a 4))), (3, .int (nI 4))]) (st' := [.int (nI (tnc f a 4))]) (h' := cTr f) (P := True) rfl trivial ?_
  exact gW_iret (gdec_at D_Tr_tonesIn 27 rfl) rfl rfl (Nat.le_of_ble_eq_true rfl) ⟨rfl, rfl⟩ (Nat.le_of_ble_eq_true rfl) (Nat.le_of_ble_eq_true rfl)
