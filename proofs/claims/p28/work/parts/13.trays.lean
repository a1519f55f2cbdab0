/-! the static helpers of GoldSheets, and GoldSheets$Trays. Printed by wip/whole/meths1.py -/
def gFi (i : Nat) : Int32 := ([50, 120, 0, 2, 30, 10] : List Int32).getD i 0
def gLo (i : Nat) : Int32 := ([1, 10, 0, 0, 1, 0] : List Int32).getD i 0
def gHi (i : Nat) : Int32 := ([200, 500, 1, 9, 99, 99] : List Int32).getD i 0
def sum4 (f : Nat → Int32) : Int32 := 0 + f 0 + f 1 + f 2 + f 3

theorem m_valueAt (n i : Nat) (f : Nat → Int32) (hn : n ≤ 1000) (h : i < n) : gM K_Gs_valueAt { frames := 0, locals := 0, cells := 0, slots := 0 } [.ref 0, .int (nI i)] ([cI n f]) (gD (.inl (some (.int (f i)))) ([cI n f])) := by
  refine gM_of rfl rfl (Nat.le_of_ble_eq_true rfl) (fun sc => ?_)
  refine gW_b D_Gs_valueAt 0 1 (pc' := 1) (l' := [(0, .ref 0), (1, .int (nI i))]) (st' := [.int (nI i)]) (h' := [cI n f]) (P := True) rfl trivial ?_
  refine gW_if_lt (gdec_at D_Gs_valueAt 1 rfl) (tgt := 16) rfl (fun cq => absurd cq (nI_pos (n := i) (by omega))) (fun _ => ?_)
  refine gW_b D_Gs_valueAt 2 3 (pc' := 7) (l' := [(0, .ref 0), (1, .int (nI i))]) (st' := [.int (nI n), .int (nI i)]) (h' := [cI n f]) (P := True) rfl trivial ?_
  refine gW_ic_ge (gdec_at D_Gs_valueAt 5 rfl) (tgt := 16) rfl (fun cq => absurd cq (mt (gle (rfl : nI n = nI n) (rfl : nI i = nI i) (by omega) (by omega)).mp (by omega))) (fun _ => ?_)
  refine gW_b D_Gs_valueAt 6 4 (pc' := 17) (l' := [(0, .ref 0), (1, .int (nI i))]) (st' := [.int (f ((nI i).toNatClampNeg))]) (h' := [cI n f]) (P := vp_in (nI i) n ∧ True) rfl ⟨(gvin (rfl : nI i = nI i) (by omega) (by omega)), trivial⟩ ?_
  rw [show (nI i).toNatClampNeg = i from gclp (rfl : nI i = nI i) (by omega)]
  exact gW_iret (gdec_at D_Gs_valueAt 11 rfl) rfl rfl (Nat.le_of_ble_eq_true rfl) ⟨rfl, rfl⟩ (Nat.le_of_ble_eq_true rfl) (Nat.le_of_ble_eq_true rfl)

theorem m_valueLo (i : Nat) (h : i < 6) : gM K_Gs_valueAt { frames := 0, locals := 0, cells := 0, slots := 0 } [.ref 1002, .int (nI i)] ([]) (gD (.inl (some (.int (gLo i)))) ([])) := by
  refine gM_of rfl rfl (Nat.le_of_ble_eq_true rfl) (fun sc => ?_)
  refine gW_b D_Gs_valueAt 0 1 (pc' := 1) (l' := [(0, .ref 1002), (1, .int (nI i))]) (st' := [.int (nI i)]) (h' := []) (P := True) rfl trivial ?_
  refine gW_if_lt (gdec_at D_Gs_valueAt 1 rfl) (tgt := 16) rfl (fun cq => absurd cq (nI_pos (n := i) (by omega))) (fun _ => ?_)
  refine gW_b D_Gs_valueAt 2 3 (pc' := 7) (l' := [(0, .ref 1002), (1, .int (nI i))]) (st' := [.int 6, .int (nI i)]) (h' := []) (P := True) rfl trivial ?_
  refine gW_ic_ge (gdec_at D_Gs_valueAt 5 rfl) (tgt := 16) rfl (fun cq => absurd cq (mt (gle (gk 6) (rfl : nI i = nI i) (by omega) (by omega)).mp (by omega))) (fun _ => ?_)
  refine gW_b D_Gs_valueAt 6 4 (pc' := 17) (l' := [(0, .ref 1002), (1, .int (nI i))]) (st' := [.int (gLo (nI i).toNatClampNeg)]) (h' := []) (P := vp_in (nI i) 6 ∧ True) rfl ⟨(gvin (rfl : nI i = nI i) (by omega) (by omega)), trivial⟩ ?_
  rw [show (nI i).toNatClampNeg = i from gclp (rfl : nI i = nI i) (by omega)]
  exact gW_iret (gdec_at D_Gs_valueAt 11 rfl) rfl rfl (Nat.le_of_ble_eq_true rfl) ⟨rfl, rfl⟩ (Nat.le_of_ble_eq_true rfl) (Nat.le_of_ble_eq_true rfl)

theorem m_valueHi (i : Nat) (h : i < 6) : gM K_Gs_valueAt { frames := 0, locals := 0, cells := 0, slots := 0 } [.ref 1003, .int (nI i)] ([]) (gD (.inl (some (.int (gHi i)))) ([])) := by
  refine gM_of rfl rfl (Nat.le_of_ble_eq_true rfl) (fun sc => ?_)
  refine gW_b D_Gs_valueAt 0 1 (pc' := 1) (l' := [(0, .ref 1003), (1, .int (nI i))]) (st' := [.int (nI i)]) (h' := []) (P := True) rfl trivial ?_
  refine gW_if_lt (gdec_at D_Gs_valueAt 1 rfl) (tgt := 16) rfl (fun cq => absurd cq (nI_pos (n := i) (by omega))) (fun _ => ?_)
  refine gW_b D_Gs_valueAt 2 3 (pc' := 7) (l' := [(0, .ref 1003), (1, .int (nI i))]) (st' := [.int 6, .int (nI i)]) (h' := []) (P := True) rfl trivial ?_
  refine gW_ic_ge (gdec_at D_Gs_valueAt 5 rfl) (tgt := 16) rfl (fun cq => absurd cq (mt (gle (gk 6) (rfl : nI i = nI i) (by omega) (by omega)).mp (by omega))) (fun _ => ?_)
  refine gW_b D_Gs_valueAt 6 4 (pc' := 17) (l' := [(0, .ref 1003), (1, .int (nI i))]) (st' := [.int (gHi (nI i).toNatClampNeg)]) (h' := []) (P := vp_in (nI i) 6 ∧ True) rfl ⟨(gvin (rfl : nI i = nI i) (by omega) (by omega)), trivial⟩ ?_
  rw [show (nI i).toNatClampNeg = i from gclp (rfl : nI i = nI i) (by omega)]
  exact gW_iret (gdec_at D_Gs_valueAt 11 rfl) rfl rfl (Nat.le_of_ble_eq_true rfl) ⟨rfl, rfl⟩ (Nat.le_of_ble_eq_true rfl) (Nat.le_of_ble_eq_true rfl)

theorem m_addAt (n i : Nat) (f : Nat → Int32) (v : Int32) (hn : n ≤ 1000) (h : i < n) : gM K_Gs_addAt { frames := 0, locals := 0, cells := 0, slots := 0 } [.ref 0, .int (nI i), .int v] ([cI n f]) (gD (.inl none) ([cI n (upd f i (f i + v))])) := by
  refine gM_of rfl rfl (Nat.le_of_ble_eq_true rfl) (fun sc => ?_)
  refine gW_b D_Gs_addAt 0 1 (pc' := 1) (l' := [(0, .ref 0), (1, .int (nI i)), (2, .int v)]) (st' := [.int (nI i)]) (h' := [cI n f]) (P := True) rfl trivial ?_
  refine gW_if_lt (gdec_at D_Gs_addAt 1 rfl) (tgt := 17) rfl (fun cq => absurd cq (nI_pos (n := i) (by omega))) (fun _ => ?_)
  refine gW_b D_Gs_addAt 2 3 (pc' := 7) (l' := [(0, .ref 0), (1, .int (nI i)), (2, .int v)]) (st' := [.int (nI n), .int (nI i)]) (h' := [cI n f]) (P := True) rfl trivial ?_
  refine gW_ic_ge (gdec_at D_Gs_addAt 5 rfl) (tgt := 17) rfl (fun cq => absurd cq (mt (gle (rfl : nI n = nI n) (rfl : nI i = nI i) (by omega) (by omega)).mp (by omega))) (fun _ => ?_)
  refine gW_b D_Gs_addAt 6 7 (pc' := 17) (l' := [(0, .ref 0), (1, .int (nI i)), (2, .int v)]) (st' := []) (h' := [cI n (upd f ((nI i).toNatClampNeg) ((f ((nI i).toNatClampNeg)) + v))]) (P := vp_in (nI i) n ∧ vp_in (nI i) n ∧ True) rfl ⟨(gvin (rfl : nI i = nI i) (by omega) (by omega)), (gvin (rfl : nI i = nI i) (by omega) (by omega)), trivial⟩ ?_
  rw [show (nI i).toNatClampNeg = i from gclp (rfl : nI i = nI i) (by omega)]
  exact gW_vret (gdec_at D_Gs_addAt 13 rfl) rfl (Nat.le_of_ble_eq_true rfl) ⟨rfl, rfl⟩ (Nat.le_of_ble_eq_true rfl) (Nat.le_of_ble_eq_true rfl)

theorem m_sumOf (f : Nat → Int32) : gM K_Gs_sumOf { frames := 0, locals := 0, cells := 0, slots := 0 } [.ref 0] ([cI 4 f]) (gD (.inl (some (.int (sum4 f)))) ([cI 4 f])) := by
  refine gM_of rfl rfl (Nat.le_of_ble_eq_true rfl) (fun sc => ?_)
  refine gW_b D_Gs_sumOf 0 11 (pc' := 13) (l' := [(0, .ref 0), (1, .int 0), (2, .ref 0), (3, .int 4), (4, .int 0)]) (st' := [.int 4, .int 0]) (h' := [cI 4 f]) (P := True) rfl trivial ?_
  refine gW_ic_ge (gdec_at D_Gs_sumOf 11 rfl) (tgt := 33) rfl (fun cq => absurd cq (by decide)) (fun _ => ?_)
  refine gW_b D_Gs_sumOf 12 10 (pc' := 10) (l' := [(0, .ref 0), (1, .int (0 + (f 0))), (2, .ref 0), (3, .int 4), (4, .int 1), (5, .int (f 0))]) (st' := []) (h' := [cI 4 f]) (P := vp_in 0 4 ∧ True) rfl ⟨(gvl 0 4 (by omega) (by omega)), trivial⟩ ?_
  refine gW_b D_Gs_sumOf 9 2 (pc' := 13) (l' := [(0, .ref 0), (1, .int (0 + (f 0))), (2, .ref 0), (3, .int 4), (4, .int 1), (5, .int (f 0))]) (st' := [.int 4, .int 1]) (h' := [cI 4 f]) (P := True) rfl trivial ?_
  refine gW_ic_ge (gdec_at D_Gs_sumOf 11 rfl) (tgt := 33) rfl (fun cq => absurd cq (by decide)) (fun _ => ?_)
  refine gW_b D_Gs_sumOf 12 10 (pc' := 10) (l' := [(0, .ref 0), (1, .int ((0 + (f 0)) + (f 1))), (2, .ref 0), (3, .int 4), (4, .int 2), (5, .int (f 1))]) (st' := []) (h' := [cI 4 f]) (P := vp_in 1 4 ∧ True) rfl ⟨(gvl 1 4 (by omega) (by omega)), trivial⟩ ?_
  refine gW_b D_Gs_sumOf 9 2 (pc' := 13) (l' := [(0, .ref 0), (1, .int ((0 + (f 0)) + (f 1))), (2, .ref 0), (3, .int 4), (4, .int 2), (5, .int (f 1))]) (st' := [.int 4, .int 2]) (h' := [cI 4 f]) (P := True) rfl trivial ?_
  refine gW_ic_ge (gdec_at D_Gs_sumOf 11 rfl) (tgt := 33) rfl (fun cq => absurd cq (by decide)) (fun _ => ?_)
  refine gW_b D_Gs_sumOf 12 10 (pc' := 10) (l' := [(0, .ref 0), (1, .int (((0 + (f 0)) + (f 1)) + (f 2))), (2, .ref 0), (3, .int 4), (4, .int 3), (5, .int (f 2))]) (st' := []) (h' := [cI 4 f]) (P := vp_in 2 4 ∧ True) rfl ⟨(gvl 2 4 (by omega) (by omega)), trivial⟩ ?_
  refine gW_b D_Gs_sumOf 9 2 (pc' := 13) (l' := [(0, .ref 0), (1, .int (((0 + (f 0)) + (f 1)) + (f 2))), (2, .ref 0), (3, .int 4), (4, .int 3), (5, .int (f 2))]) (st' := [.int 4, .int 3]) (h' := [cI 4 f]) (P := True) rfl trivial ?_
  refine gW_ic_ge (gdec_at D_Gs_sumOf 11 rfl) (tgt := 33) rfl (fun cq => absurd cq (by decide)) (fun _ => ?_)
  refine gW_b D_Gs_sumOf 12 10 (pc' := 10) (l' := [(0, .ref 0), (1, .int ((((0 + (f 0)) + (f 1)) + (f 2)) + (f 3))), (2, .ref 0), (3, .int 4), (4, .int 4), (5, .int (f 3))]) (st' := []) (h' := [cI 4 f]) (P := vp_in 3 4 ∧ True) rfl ⟨(gvl 3 4 (by omega) (by omega)), trivial⟩ ?_
  refine gW_b D_Gs_sumOf 9 2 (pc' := 13) (l' := [(0, .ref 0), (1, .int ((((0 + (f 0)) + (f 1)) + (f 2)) + (f 3))), (2, .ref 0), (3, .int 4), (4, .int 4), (5, .int (f 3))]) (st' := [.int 4, .int 4]) (h' := [cI 4 f]) (P := True) rfl trivial ?_
  refine gW_ic_ge (gdec_at D_Gs_sumOf 11 rfl) (tgt := 33) rfl (fun _ => ?_) (fun cq => absurd (by decide) cq)
  refine gW_b D_Gs_sumOf 22 1 (pc' := 34) (l' := [(0, .ref 0), (1, .int ((((0 + (f 0)) + (f 1)) + (f 2)) + (f 3))), (2, .ref 0), (3, .int 4), (4, .int 4), (5, .int (f 3))]) (st' := [.int ((((0 + (f 0)) + (f 1)) + (f 2)) + (f 3))]) (h' := [cI 4 f]) (P := True) rfl trivial ?_
  exact gW_iret (gdec_at D_Gs_sumOf 23 rfl) rfl rfl (Nat.le_of_ble_eq_true rfl) ⟨rfl, rfl⟩ (Nat.le_of_ble_eq_true rfl) (Nat.le_of_ble_eq_true rfl)

theorem m_copyRow (n : Nat) (f g : Nat → Int32) (hn : n ≤ 1000) : gM K_Gs_copyRow { frames := 1, locals := 40, cells := 0, slots := 0 } [.ref 0, .ref 1] ([cI n f, cI n g]) (gD (.inl none) ([cI n f, cI n f])) := by
  refine gM_of rfl rfl (Nat.le_of_ble_eq_true rfl) (fun sc => ?_)
  refine gW_b D_Gs_copyRow 0 8 (pc' := 8) (l' := [(0, .ref 0), (1, .ref 1)]) (st' := [.int (nI n), .int (nI n), .int 0, .ref 1, .int 0, .ref 0]) (h' := [cI n f, cI n g]) (P := True) rfl trivial ?_
  refine gW_min (gmem 76 (by decide +kernel)) (gdec_at D_Gs_copyRow 8 rfl) (Nat.le_of_ble_eq_true rfl) (Nat.le_of_ble_eq_true rfl) (Nat.le_of_ble_eq_true rfl) (Nat.le_of_ble_eq_true rfl) ?_
  rw [show (if nI n < nI n then nI n else nI n : Int32) = nI n from (if_neg Int32.lt_irrefl)]
  refine gW_copy (gmem 79 (by decide +kernel)) (gdec_at D_Gs_copyRow 9 rfl) rfl rfl rfl (by omega) (Nat.le_of_ble_eq_true rfl) (Nat.le_of_ble_eq_true rfl) ?_
  exact gW_vret (gdec_at D_Gs_copyRow 10 rfl) rfl (Nat.le_of_ble_eq_true rfl) ⟨rfl, rfl⟩ (Nat.le_of_ble_eq_true rfl) (Nat.le_of_ble_eq_true rfl)

theorem m_copyFi (g : Nat → Int32) : gM K_Gs_copyRow { frames := 1, locals := 40, cells := 0, slots := 0 } [.ref 1001, .ref 0] ([cI 6 g]) (gD (.inl none) ([cI 6 gFi])) := by
  refine gM_of rfl rfl (Nat.le_of_ble_eq_true rfl) (fun sc => ?_)
  refine gW_b D_Gs_copyRow 0 8 (pc' := 8) (l' := [(0, .ref 1001), (1, .ref 0)]) (st' := [.int 6, .int 6, .int 0, .ref 0, .int 0, .ref 1001]) (h' := [cI 6 g]) (P := True) rfl trivial ?_
  refine gW_min (gmem 76 (by decide +kernel)) (gdec_at D_Gs_copyRow 8 rfl) (Nat.le_of_ble_eq_true rfl) (Nat.le_of_ble_eq_true rfl) (Nat.le_of_ble_eq_true rfl) (Nat.le_of_ble_eq_true rfl) ?_
  rw [show (if (6 : Int32) < (6 : Int32) then (6 : Int32) else (6 : Int32) : Int32) = 6 from (if_neg Int32.lt_irrefl)]
  refine gW_copyX (b := 1) (N := 6) (gmem 79 (by decide +kernel)) (gdec_at D_Gs_copyRow 9 rfl) (by decide) rfl rfl rfl (by decide) (Nat.le_of_ble_eq_true rfl) (Nat.le_of_ble_eq_true rfl) ?_
  exact gW_vret (gdec_at D_Gs_copyRow 10 rfl) rfl (Nat.le_of_ble_eq_true rfl) ⟨rfl, rfl⟩ (Nat.le_of_ble_eq_true rfl) (Nat.le_of_ble_eq_true rfl)
abbrev cTr (f : Nat → Int32) : gH := [cO 0 [.ref 1], cI 24 f]

theorem m_held (f : Nat → Int32) (a t : Nat) (ha : a < 6) (ht : t < 4) : gM K_Tr_held { frames := 0, locals := 0, cells := 0, slots := 0 } [.ref 0, .int (nI a), .int (nI t)] (cTr f) (gD (.inl (some (.int (f (a * 4 + t))))) (cTr f)) := by
  refine gM_of rfl rfl (Nat.le_of_ble_eq_true rfl) (fun sc => ?_)
  refine gW_b D_Tr_held 0 1 (pc' := 1) (l' := [(0, .ref 0), (1, .int (nI a)), (2, .int (nI t))]) (st' := [.int (nI a)]) (h' := cTr f) (P := True) rfl trivial ?_
  refine gW_if_lt (gdec_at D_Tr_held 1 rfl) (tgt := 23) rfl (fun cq => absurd cq (nI_pos (n := a) (by omega))) (fun _ => ?_)
  refine gW_b D_Tr_held 2 2 (pc' := 7) (l' := [(0, .ref 0), (1, .int (nI a)), (2, .int (nI t))]) (st' := [.int 6, .int (nI a)]) (h' := cTr f) (P := True) rfl trivial ?_
  refine gW_ic_ge (gdec_at D_Tr_held 4 rfl) (tgt := 23) rfl (fun cq => absurd cq (mt (gle (gk 6) (rfl : nI a = nI a) (by omega) (by omega)).mp (by omega))) (fun _ => ?_)
  refine gW_b D_Tr_held 5 1 (pc' := 11) (l' := [(0, .ref 0), (1, .int (nI a)), (2, .int (nI t))]) (st' := [.int (nI t)]) (h' := cTr f) (P := True) rfl trivial ?_
  refine gW_if_lt (gdec_at D_Tr_held 6 rfl) (tgt := 23) rfl (fun cq => absurd cq (nI_pos (n := t) (by omega))) (fun _ => ?_)
  refine gW_b D_Tr_held 7 2 (pc' := 16) (l' := [(0, .ref 0), (1, .int (nI a)), (2, .int (nI t))]) (st' := [.int 4, .int (nI t)]) (h' := cTr f) (P := True) rfl trivial ?_
  refine gW_ic_ge (gdec_at D_Tr_held 9 rfl) (tgt := 23) rfl (fun cq => absurd cq (mt (gle (gk 4) (rfl : nI t = nI t) (by omega) (by omega)).mp (by omega))) (fun _ => ?_)
  refine gW_b D_Tr_held 10 2 (pc' := 24) (l' := [(0, .ref 0), (1, .int (nI a)), (2, .int (nI t))]) (st' := [.int 1]) (h' := cTr f) (P := True) rfl trivial ?_
  refine gW_b D_Tr_held 13 2 (pc' := 26) (l' := [(0, .ref 0), (1, .int (nI a)), (2, .int (nI t)), (3, .int 1)]) (st' := [.int 1]) (h' := cTr f) (P := True) rfl trivial ?_
  refine gW_if_eq (gdec_at D_Tr_held 15 rfl) (tgt := 42) rfl (fun cq => absurd cq (by decide)) (fun _ => ?_)
  refine gW_b D_Tr_held 16 9 (pc' := 43) (l' := [(0, .ref 0), (1, .int (nI a)), (2, .int (nI t)), (3, .int 1)]) (st' := [.int (f ((((nI a) * 4) + (nI t)).toNatClampNeg))]) (h' := cTr f) (P := vp_in (((nI a) * 4) + (nI t)) 24 ∧ True) rfl ⟨(gvin (gadd (gmul (rfl : nI a = nI a) (gk 4)) (rfl : nI t = nI t)) (by omega) (by omega)), trivial⟩ ?_
  rw [show (((nI a) * 4) + (nI t)).toNatClampNeg = ((a * 4) + t) from gclp (gadd (gmul (rfl : nI a = nI a) (gk 4)) (rfl : nI t = nI t)) (by omega)]
  exact gW_iret (gdec_at D_Tr_held 26 rfl) rfl rfl (Nat.le_of_ble_eq_true rfl) ⟨rfl, rfl⟩ (Nat.le_of_ble_eq_true rfl) (Nat.le_of_ble_eq_true rfl)

theorem m_change (f : Nat → Int32) (a t : Nat) (v : Int32) (ha : a < 6) (ht : t < 4) : gM K_Tr_change { frames := 0, locals := 0, cells := 0, slots := 0 } [.ref 0, .int (nI a), .int (nI t), .int v] (cTr f) (gD (.inl none) (cTr (upd f (a * 4 + t) (f (a * 4 + t) + v)))) := by
  refine gM_of rfl rfl (Nat.le_of_ble_eq_true rfl) (fun sc => ?_)
  refine gW_b D_Tr_change 0 1 (pc' := 1) (l' := [(0, .ref 0), (1, .int (nI a)), (2, .int (nI t)), (3, .int v)]) (st' := [.int (nI a)]) (h' := cTr f) (P := True) rfl trivial ?_
  refine gW_if_lt (gdec_at D_Tr_change 1 rfl) (tgt := 33) rfl (fun cq => absurd cq (nI_pos (n := a) (by omega))) (fun _ => ?_)
  refine gW_b D_Tr_change 2 2 (pc' := 7) (l' := [(0, .ref 0), (1, .int (nI a)), (2, .int (nI t)), (3, .int v)]) (st' := [.int 6, .int (nI a)]) (h' := cTr f) (P := True) rfl trivial ?_
  refine gW_ic_ge (gdec_at D_Tr_change 4 rfl) (tgt := 33) rfl (fun cq => absurd cq (mt (gle (gk 6) (rfl : nI a = nI a) (by omega) (by omega)).mp (by omega))) (fun _ => ?_)
  refine gW_b D_Tr_change 5 1 (pc' := 11) (l' := [(0, .ref 0), (1, .int (nI a)), (2, .int (nI t)), (3, .int v)]) (st' := [.int (nI t)]) (h' := cTr f) (P := True) rfl trivial ?_
  refine gW_if_lt (gdec_at D_Tr_change 6 rfl) (tgt := 33) rfl (fun cq => absurd cq (nI_pos (n := t) (by omega))) (fun _ => ?_)
  refine gW_b D_Tr_change 7 2 (pc' := 16) (l' := [(0, .ref 0), (1, .int (nI a)), (2, .int (nI t)), (3, .int v)]) (st' := [.int 4, .int (nI t)]) (h' := cTr f) (P := True) rfl trivial ?_
  refine gW_ic_ge (gdec_at D_Tr_change 9 rfl) (tgt := 33) rfl (fun cq => absurd cq (mt (gle (gk 4) (rfl : nI t = nI t) (by omega) (by omega)).mp (by omega))) (fun _ => ?_)
  refine gW_b D_Tr_change 10 12 (pc' := 33) (l' := [(0, .ref 0), (1, .int (nI a)), (2, .int (nI t)), (3, .int v)]) (st' := []) (h' := cTr (upd f ((((nI a) * 4) + (nI t)).toNatClampNeg) ((f ((((nI a) * 4) + (nI t)).toNatClampNeg)) + v))) (P := vp_in (((nI a) * 4) + (nI t)) 24 ∧ vp_in (((nI a) * 4) + (nI t)) 24 ∧ True) rfl ⟨(gvin (gadd (gmul (rfl : nI a = nI a) (gk 4)) (rfl : nI t = nI t)) (by omega) (by omega)), (gvin (gadd (gmul (rfl : nI a = nI a) (gk 4)) (rfl : nI t = nI t)) (by omega) (by omega)), trivial⟩ ?_
  rw [show (((nI a) * 4) + (nI t)).toNatClampNeg = ((a * 4) + t) from gclp (gadd (gmul (rfl : nI a = nI a) (gk 4)) (rfl : nI t = nI t)) (by omega)]
  exact gW_vret (gdec_at D_Tr_change 22 rfl) rfl (Nat.le_of_ble_eq_true rfl) ⟨rfl, rfl⟩ (Nat.le_of_ble_eq_true rfl) (Nat.le_of_ble_eq_true rfl)
def hA (f : Nat → Int32) (a : Nat) : Int32 := 0 + f (a * 4 + 0) + f (a * 4 + 1) + f (a * 4 + 2) + f (a * 4 + 3)

theorem m_heldInAll (f : Nat → Int32) (a : Nat) (ha : a < 6) : gM K_Tr_heldInAll { frames := 1, locals := 23, cells := 0, slots := 0 } [.ref 0, .int (nI a)] (cTr f) (gD (.inl (some (.int (hA f a)))) (cTr f)) := by
  refine gM_of rfl rfl (Nat.le_of_ble_eq_true rfl) (fun sc => ?_)
  refine gW_b D_Tr_heldInAll 0 6 (pc' := 6) (l' := [(0, .ref 0), (1, .int (nI a)), (2, .int 0), (3, .int 0)]) (st' := [.int 4, .int 0]) (h' := cTr f) (P := True) rfl trivial ?_
  refine gW_ic_ge (gdec_at D_Tr_heldInAll 6 rfl) (tgt := 24) rfl (fun cq => absurd cq (by decide)) (fun _ => ?_)
  refine gW_b D_Tr_heldInAll 7 4 (pc' := 13) (l' := [(0, .ref 0), (1, .int (nI a)), (2, .int 0), (3, .int 0)]) (st' := [.int 0, .int (nI a), .ref 0, .int 0]) (h' := cTr f) (P := True) rfl trivial ?_
  refine gW_callV (m_held f a 0 (by omega) (by omega)) lk_Tr_19 [0, 1] (gdec_at D_Tr_heldInAll 11 rfl) (st := [.int 0]) rfl rfl ⟨rfl, rfl⟩ (Nat.le_of_ble_eq_true rfl) rfl (by decide) rfl (Nat.le_of_ble_eq_true rfl) ⟨Nat.le_of_ble_eq_true rfl, Nat.le_of_ble_eq_true rfl⟩ ⟨Nat.le_of_ble_eq_true rfl, Nat.le_of_ble_eq_true rfl⟩ (gAft_r rfl rfl (h' := cTr f) (st' := [.int (f (a * 4 + 0)), .int 0]) (pc' := 16) (cs' := 0) (ss' := 0) rfl rfl rfl rfl rfl ?_)
  refine gW_b D_Tr_heldInAll 12 4 (pc' := 4) (l' := [(0, .ref 0), (1, .int (nI a)), (2, .int (0 + (f (a * 4 + 0)))), (3, .int 1)]) (st' := []) (h' := cTr f) (P := True) rfl trivial ?_
  refine gW_b D_Tr_heldInAll 4 2 (pc' := 6) (l' := [(0, .ref 0), (1, .int (nI a)), (2, .int (0 + (f (a * 4 + 0)))), (3, .int 1)]) (st' := [.int 4, .int 1]) (h' := cTr f) (P := True) rfl trivial ?_
  refine gW_ic_ge (gdec_at D_Tr_heldInAll 6 rfl) (tgt := 24) rfl (fun cq => absurd cq (by decide)) (fun _ => ?_)
  refine gW_b D_Tr_heldInAll 7 4 (pc' := 13) (l' := [(0, .ref 0), (1, .int (nI a)), (2, .int (0 + (f (a * 4 + 0)))), (3, .int 1)]) (st' := [.int 1, .int (nI a), .ref 0, .int (0 + (f (a * 4 + 0)))]) (h' := cTr f) (P := True) rfl trivial ?_
  refine gW_callV (m_held f a 1 (by omega) (by omega)) lk_Tr_19 [0, 1] (gdec_at D_Tr_heldInAll 11 rfl) (st := [.int (0 + (f (a * 4 + 0)))]) rfl rfl ⟨rfl, rfl⟩ (Nat.le_of_ble_eq_true rfl) rfl (by decide) rfl (Nat.le_of_ble_eq_true rfl) ⟨Nat.le_of_ble_eq_true rfl, Nat.le_of_ble_eq_true rfl⟩ ⟨Nat.le_of_ble_eq_true rfl, Nat.le_of_ble_eq_true rfl⟩ (gAft_r rfl rfl (h' := cTr f) (st' := [.int (f (a * 4 + 1)), .int (0 + (f (a * 4 + 0)))]) (pc' := 16) (cs' := 0) (ss' := 0) rfl rfl rfl rfl rfl ?_)
  refine gW_b D_Tr_heldInAll 12 4 (pc' := 4) (l' := [(0, .ref 0), (1, .int (nI a)), (2, .int ((0 + (f (a * 4 + 0))) + (f (a * 4 + 1)))), (3, .int 2)]) (st' := []) (h' := cTr f) (P := True) rfl trivial ?_
  refine gW_b D_Tr_heldInAll 4 2 (pc' := 6) (l' := [(0, .ref 0), (1, .int (nI a)), (2, .int ((0 + (f (a * 4 + 0))) + (f (a * 4 + 1)))), (3, .int 2)]) (st' := [.int 4, .int 2]) (h' := cTr f) (P := True) rfl trivial ?_
  refine gW_ic_ge (gdec_at D_Tr_heldInAll 6 rfl) (tgt := 24) rfl (fun cq => absurd cq (by decide)) (fun _ => ?_)
  refine gW_b D_Tr_heldInAll 7 4 (pc' := 13) (l' := [(0, .ref 0), (1, .int (nI a)), (2, .int ((0 + (f (a * 4 + 0))) + (f (a * 4 + 1)))), (3, .int 2)]) (st' := [.int 2, .int (nI a), .ref 0, .int ((0 + (f (a * 4 + 0))) + (f (a * 4 + 1)))]) (h' := cTr f) (P := True) rfl trivial ?_
  refine gW_callV (m_held f a 2 (by omega) (by omega)) lk_Tr_19 [0, 1] (gdec_at D_Tr_heldInAll 11 rfl) (st := [.int ((0 + (f (a * 4 + 0))) + (f (a * 4 + 1)))]) rfl rfl ⟨rfl, rfl⟩ (Nat.le_of_ble_eq_true rfl) rfl (by decide) rfl (Nat.le_of_ble_eq_true rfl) ⟨Nat.le_of_ble_eq_true rfl, Nat.le_of_ble_eq_true rfl⟩ ⟨Nat.le_of_ble_eq_true rfl, Nat.le_of_ble_eq_true rfl⟩ (gAft_r rfl rfl (h' := cTr f) (st' := [.int (f (a * 4 + 2)), .int ((0 + (f (a * 4 + 0))) + (f (a * 4 + 1)))]) (pc' := 16) (cs' := 0) (ss' := 0) rfl rfl rfl rfl rfl ?_)
  refine gW_b D_Tr_heldInAll 12 4 (pc' := 4) (l' := [(0, .ref 0), (1, .int (nI a)), (2, .int (((0 + (f (a * 4 + 0))) + (f (a * 4 + 1))) + (f (a * 4 + 2)))), (3, .int 3)]) (st' := []) (h' := cTr f) (P := True) rfl trivial ?_
  refine gW_b D_Tr_heldInAll 4 2 (pc' := 6) (l' := [(0, .ref 0), (1, .int (nI a)), (2, .int (((0 + (f (a * 4 + 0))) + (f (a * 4 + 1))) + (f (a * 4 + 2)))), (3, .int 3)]) (st' := [.int 4, .int 3]) (h' := cTr f) (P := True) rfl trivial ?_
  refine gW_ic_ge (gdec_at D_Tr_heldInAll 6 rfl) (tgt := 24) rfl (fun cq => absurd cq (by decide)) (fun _ => ?_)
  refine gW_b D_Tr_heldInAll 7 4 (pc' := 13) (l' := [(0, .ref 0), (1, .int (nI a)), (2, .int (((0 + (f (a * 4 + 0))) + (f (a * 4 + 1))) + (f (a * 4 + 2)))), (3, .int 3)]) (st' := [.int 3, .int (nI a), .ref 0, .int (((0 + (f (a * 4 + 0))) + (f (a * 4 + 1))) + (f (a * 4 + 2)))]) (h' := cTr f) (P := True) rfl trivial ?_
  refine gW_callV (m_held f a 3 (by omega) (by omega)) lk_Tr_19 [0, 1] (gdec_at D_Tr_heldInAll 11 rfl) (st := [.int (((0 + (f (a * 4 + 0))) + (f (a * 4 + 1))) + (f (a * 4 + 2)))]) rfl rfl ⟨rfl, rfl⟩ (Nat.le_of_ble_eq_true rfl) rfl (by decide) rfl (Nat.le_of_ble_eq_true rfl) ⟨Nat.le_of_ble_eq_true rfl, Nat.le_of_ble_eq_true rfl⟩ ⟨Nat.le_of_ble_eq_true rfl, Nat.le_of_ble_eq_true rfl⟩ (gAft_r rfl rfl (h' := cTr f) (st' := [.int (f (a * 4 + 3)), .int (((0 + (f (a * 4 + 0))) + (f (a * 4 + 1))) + (f (a * 4 + 2)))]) (pc' := 16) (cs' := 0) (ss' := 0) rfl rfl rfl rfl rfl ?_)
  refine gW_b D_Tr_heldInAll 12 4 (pc' := 4) (l' := [(0, .ref 0), (1, .int (nI a)), (2, .int ((((0 + (f (a * 4 + 0))) + (f (a * 4 + 1))) + (f (a * 4 + 2))) + (f (a * 4 + 3)))), (3, .int 4)]) (st' := []) (h' := cTr f) (P := True) rfl trivial ?_
  refine gW_b D_Tr_heldInAll 4 2 (pc' := 6) (l' := [(0, .ref 0), (1, .int (nI a)), (2, .int ((((0 + (f (a * 4 + 0))) + (f (a * 4 + 1))) + (f (a * 4 + 2))) + (f (a * 4 + 3)))), (3, .int 4)]) (st' := [.int 4, .int 4]) (h' := cTr f) (P := True) rfl trivial ?_
  refine gW_ic_ge (gdec_at D_Tr_heldInAll 6 rfl) (tgt := 24) rfl (fun _ => ?_) (fun cq => absurd (by decide) cq)
  refine gW_b D_Tr_heldInAll 16 1 (pc' := 25) (l' := [(0, .ref 0), (1, .int (nI a)), (2, .int ((((0 + (f (a * 4 + 0))) + (f (a * 4 + 1))) + (f (a * 4 + 2))) + (f (a * 4 + 3)))), (3, .int 4)]) (st' := [.int ((((0 + (f (a * 4 + 0))) + (f (a * 4 + 1))) + (f (a * 4 + 2))) + (f (a * 4 + 3)))]) (h' := cTr f) (P := True) rfl trivial ?_
  exact gW_iret (gdec_at D_Tr_heldInAll 17 rfl) rfl rfl (Nat.le_of_ble_eq_true rfl) ⟨rfl, rfl⟩ (Nat.le_of_ble_eq_true rfl) (Nat.le_of_ble_eq_true rfl)
def frI (f : Nat → Int32) (a : Nat) (r : Int32) : Int32 := if 0 < r - hA f a then r - hA f a else 0

theorem m_freeIn (f : Nat → Int32) (a : Nat) (r : Int32) (ha : a < 6) : gM K_Tr_freeIn { frames := 2, locals := 46, cells := 0, slots := 0 } [.ref 0, .int (nI a), .int r] (cTr f) (gD (.inl (some (.int (frI f a r)))) (cTr f)) := by
  refine gM_of rfl rfl (Nat.le_of_ble_eq_true rfl) (fun sc => ?_)
  refine gW_b D_Tr_freeIn 0 4 (pc' := 4) (l' := [(0, .ref 0), (1, .int (nI a)), (2, .int r)]) (st' := [.int (nI a), .ref 0, .int r, .int 0]) (h' := cTr f) (P := True) rfl trivial ?_
  refine gW_callV (m_heldInAll f a (by omega)) lk_Tr_23 [0, 1] (gdec_at D_Tr_freeIn 4 rfl) (st := [.int r, .int 0]) rfl rfl ⟨rfl, rfl⟩ (Nat.le_of_ble_eq_true rfl) rfl (by decide) rfl (Nat.le_of_ble_eq_true rfl) ⟨Nat.le_of_ble_eq_true rfl, Nat.le_of_ble_eq_true rfl⟩ ⟨Nat.le_of_ble_eq_true rfl, Nat.le_of_ble_eq_true rfl⟩ (gAft_r rfl rfl (h' := cTr f) (st' := [.int (hA f a), .int r, .int 0]) (pc' := 7) (cs' := 0) (ss' := 0) rfl rfl rfl rfl rfl ?_)
  refine gW_b D_Tr_freeIn 5 1 (pc' := 8) (l' := [(0, .ref 0), (1, .int (nI a)), (2, .int r)]) (st' := [.int (r - (hA f a)), .int 0]) (h' := cTr f) (P := True) rfl trivial ?_
  refine gW_max (gmem 358 (by decide +kernel)) (gdec_at D_Tr_freeIn 6 rfl) (Nat.le_of_ble_eq_true rfl) (Nat.le_of_ble_eq_true rfl) (Nat.le_of_ble_eq_true rfl) (Nat.le_of_ble_eq_true rfl) ?_
  exact gW_iret (gdec_at D_Tr_freeIn 7 rfl) rfl rfl (Nat.le_of_ble_eq_true rfl) ⟨rfl, rfl⟩ (Nat.le_of_ble_eq_true rfl) (Nat.le_of_ble_eq_true rfl)
/-- of the first i tones of tray a: how many it has -/
def tnc (f : Nat → Int32) (a : Nat) : Nat → Nat
  | 0 => 0
  | i + 1 => if f (a * 4 + i) ≤ 0 then tnc f a i else tnc f a i + 1
theorem tnc_le (f : Nat → Int32) (a : Nat) : ∀ i, tnc f a i ≤ i
  | 0 => Nat.le_refl _
  | i + 1 => by
    have := tnc_le f a i
    unfold tnc
    split <;> omega
def tn (f : Nat → Int32) (a : Nat) : Nat := tnc f a 4
theorem tn_le (f : Nat → Int32) (a : Nat) : tn f a ≤ 4 := tnc_le f a 4
theorem l_tonesIn (f : Nat → Int32) (a : Nat) (ha : a < 6) {sc : Nat × (Nat → Int32)} {n0 : Nat} {E : gO → gH → Prop} (kk : gW K_Tr_tonesIn sc { frames := 0, locals := 0, cells := 0, slots := 0 } n0 E 0 0 43 [(0, .ref 0), (1, .int (nI a)), (2, .int (nI (tnc f a 4))), (3, .int (nI 4))] [] (cTr f)) : ∀ (n i : Nat), i + n = 4 → gW K_Tr_tonesIn sc { frames := 0, locals := 0, cells := 0, slots := 0 } n0 E 0 0 16 [(0, .ref 0), (1, .int (nI a)), (2, .int (nI (tnc f a i))), (3, .int (nI i))] [] (cTr f) := by
  intro n
  induction n with
  | zero =>
    intro i hi
    obtain rfl : 4 = i := by omega
    refine gW_b D_Tr_tonesIn 11 2 (pc' := 18) (l' := [(0, .ref 0), (1, .int (nI a)), (2, .int (nI (tnc f a 4))), (3, .int (nI 4))]) (st' := [.int 4, .int (nI 4)]) (h' := cTr f) (P := True) rfl trivial ?_
    refine gW_ic_ge (gdec_at D_Tr_tonesIn 13 rfl) (tgt := 43) rfl (fun _ => ?_) (fun cq => absurd ((gle (gk 4) (rfl : nI 4 = nI 4) (by omega) (by omega)).mpr (by omega)) cq)
    exact kk
  | succ n ih =>
    intro i hi
    refine gW_b D_Tr_tonesIn 11 2 (pc' := 18) (l' := [(0, .ref 0), (1, .int (nI a)), (2, .int (nI (tnc f a i))), (3, .int (nI i))]) (st' := [.int 4, .int (nI i)]) (h' := cTr f) (P := True) rfl trivial ?_
    refine gW_ic_ge (gdec_at D_Tr_tonesIn 13 rfl) (tgt := 43) rfl (fun cq => absurd cq (mt (gle (gk 4) (rfl : nI i = nI i) (by omega) (by omega)).mp (by omega))) (fun _ => ?_)
    have hb := tnc_le f a i
    refine gW_b D_Tr_tonesIn 14 8 (pc' := 31) (l' := [(0, .ref 0), (1, .int (nI a)), (2, .int (nI (tnc f a i))), (3, .int (nI i))]) (st' := [.int (f ((((nI a) * 4) + (nI i)).toNatClampNeg))]) (h' := cTr f) (P := vp_in (((nI a) * 4) + (nI i)) 24 ∧ True) rfl ⟨(gvin (gadd (gmul (rfl : nI a = nI a) (gk 4)) (rfl : nI i = nI i)) (by omega) (by omega)), trivial⟩ ?_
    rw [show (((nI a) * 4) + (nI i)).toNatClampNeg = ((a * 4) + i) from gclp (gadd (gmul (rfl : nI a = nI a) (gk 4)) (rfl : nI i = nI i)) (by omega)]
    refine gW_if_le (gdec_at D_Tr_tonesIn 22 rfl) (tgt := 37) rfl (fun c => ?_) (fun c => ?_)
    · skip
      refine gW_b D_Tr_tonesIn 24 2 (pc' := 16) (l' := [(0, .ref 0), (1, .int (nI a)), (2, .int (nI (tnc f a i))), (3, .int ((nI i) + 1))]) (st' := []) (h' := cTr f) (P := True) rfl trivial ?_
      rw [show ((nI i) + 1 : Int32) = nI (i + 1) from (gadd (rfl : nI i = nI i) (gk 1))]
      rw [show tnc f a i = tnc f a (i + 1) from (if_pos c).symm]
      exact ih (i + 1) (by omega)
    · skip
      refine gW_b D_Tr_tonesIn 23 3 (pc' := 16) (l' := [(0, .ref 0), (1, .int (nI a)), (2, .int ((nI (tnc f a i)) + 1)), (3, .int ((nI i) + 1))]) (st' := []) (h' := cTr f) (P := True) rfl trivial ?_
      rw [show ((nI (tnc f a i)) + 1 : Int32) = nI ((tnc f a i) + 1) from (gadd (rfl : nI (tnc f a i) = nI (tnc f a i)) (gk 1))]
      rw [show ((nI i) + 1 : Int32) = nI (i + 1) from (gadd (rfl : nI i = nI i) (gk 1))]
      rw [show tnc f a i + 1 = tnc f a (i + 1) from (if_neg c).symm]
      exact ih (i + 1) (by omega)
theorem m_tonesIn (f : Nat → Int32) (a : Nat) (ha : a < 6) : gM K_Tr_tonesIn { frames := 0, locals := 0, cells := 0, slots := 0 } [.ref 0, .int (nI a)] (cTr f) (gD (.inl (some (.int (nI (tn f a))))) (cTr f)) := by
  refine gM_of rfl rfl (Nat.le_of_ble_eq_true rfl) (fun sc => ?_)
  refine gW_b D_Tr_tonesIn 0 1 (pc' := 1) (l' := [(0, .ref 0), (1, .int (nI a))]) (st' := [.int (nI a)]) (h' := cTr f) (P := True) rfl trivial ?_
  refine gW_if_lt (gdec_at D_Tr_tonesIn 1 rfl) (tgt := 10) rfl (fun cq => absurd cq (nI_pos (n := a) (by omega))) (fun _ => ?_)
  refine gW_b D_Tr_tonesIn 2 2 (pc' := 7) (l' := [(0, .ref 0), (1, .int (nI a))]) (st' := [.int 6, .int (nI a)]) (h' := cTr f) (P := True) rfl trivial ?_
  refine gW_ic_lt (gdec_at D_Tr_tonesIn 4 rfl) (tgt := 12) rfl (fun _ => ?_) (fun cq => absurd ((glt (rfl : nI a = nI a) (gk 6) (by omega) (by omega)).mpr (by omega)) cq)
  refine gW_b D_Tr_tonesIn 7 4 (pc' := 16) (l' := [(0, .ref 0), (1, .int (nI a)), (2, .int 0), (3, .int 0)]) (st' := []) (h' := cTr f) (P := True) rfl trivial ?_
  refine l_tonesIn f a ha ?_ 4 0 rfl
  refine gW_b D_Tr_tonesIn 26 1 (pc' := 44) (l' := [(0, .ref 0), (1, .int (nI a)), (2, .int (nI (tnc f a 4))), (3, .int (nI 4))]) (st' := [.int (nI (tnc f a 4))]) (h' := cTr f) (P := True) rfl trivial ?_
  exact gW_iret (gdec_at D_Tr_tonesIn 27 rfl) rfl rfl (Nat.le_of_ble_eq_true rfl) ⟨rfl, rfl⟩ (Nat.le_of_ble_eq_true rfl) (Nat.le_of_ble_eq_true rfl)
def mxc (f : Nat → Int32) : Nat → Nat
  | 0 => 0
  | i + 1 => if tn f i ≤ 1 then mxc f i else mxc f i + 1
theorem mxc_le (f : Nat → Int32) : ∀ i, mxc f i ≤ i
  | 0 => Nat.le_refl _
  | i + 1 => by
    have := mxc_le f i
    unfold mxc
    split <;> omega
theorem l_mixedTrays (f : Nat → Int32) {sc : Nat × (Nat → Int32)} {n0 : Nat} {E : gO → gH → Prop} (kk : gW K_Tr_mixedTrays sc { frames := 1, locals := 23, cells := 0, slots := 0 } n0 E 0 0 28 [(0, .ref 0), (1, .int (nI (mxc f 6))), (2, .int (nI 6))] [] (cTr f)) : ∀ (n i : Nat), i + n = 6 → gW K_Tr_mixedTrays sc { frames := 1, locals := 23, cells := 0, slots := 0 } n0 E 0 0 4 [(0, .ref 0), (1, .int (nI (mxc f i))), (2, .int (nI i))] [] (cTr f) := by
  intro n
  induction n with
  | zero =>
    intro i hi
    obtain rfl : 6 = i := by omega
    refine gW_b D_Tr_mixedTrays 4 2 (pc' := 7) (l' := [(0, .ref 0), (1, .int (nI (mxc f 6))), (2, .int (nI 6))]) (st' := [.int 6, .int (nI 6)]) (h' := cTr f) (P := True) rfl trivial ?_
    refine gW_ic_ge (gdec_at D_Tr_mixedTrays 6 rfl) (tgt := 28) rfl (fun _ => ?_) (fun cq => absurd ((gle (gk 6) (rfl : nI 6 = nI 6) (by omega) (by omega)).mpr (by omega)) cq)
    exact kk
  | succ n ih =>
    intro i hi
    refine gW_b D_Tr_mixedTrays 4 2 (pc' := 7) (l' := [(0, .ref 0), (1, .int (nI (mxc f i))), (2, .int (nI i))]) (st' := [.int 6, .int (nI i)]) (h' := cTr f) (P := True) rfl trivial ?_
    refine gW_ic_ge (gdec_at D_Tr_mixedTrays 6 rfl) (tgt := 28) rfl (fun cq => absurd cq (mt (gle (gk 6) (rfl : nI i = nI i) (by omega) (by omega)).mp (by omega))) (fun _ => ?_)
    have hb := mxc_le f i
    have hb2 := tn_le f i
    refine gW_b D_Tr_mixedTrays 7 2 (pc' := 12) (l' := [(0, .ref 0), (1, .int (nI (mxc f i))), (2, .int (nI i))]) (st' := [.int (nI i), .ref 0]) (h' := cTr f) (P := True) rfl trivial ?_
    refine gW_callV (m_tonesIn f i (by omega)) lk_Tr_32 [0, 1] (gdec_at D_Tr_mixedTrays 9 rfl) (st := []) rfl rfl ⟨rfl, rfl⟩ (Nat.le_of_ble_eq_true rfl) rfl (by decide) rfl (Nat.le_of_ble_eq_true rfl) ⟨Nat.le_of_ble_eq_true rfl, Nat.le_of_ble_eq_true rfl⟩ ⟨Nat.le_of_ble_eq_true rfl, Nat.le_of_ble_eq_true rfl⟩ (gAft_r rfl rfl (h' := cTr f) (st' := [.int (nI (tn f i))]) (pc' := 15) (cs' := 0) (ss' := 0) rfl rfl rfl rfl rfl ?_)
    refine gW_b D_Tr_mixedTrays 10 1 (pc' := 16) (l' := [(0, .ref 0), (1, .int (nI (mxc f i))), (2, .int (nI i))]) (st' := [.int 1, .int (nI (tn f i))]) (h' := cTr f) (P := True) rfl trivial ?_
    refine gW_ic_le (gdec_at D_Tr_mixedTrays 11 rfl) (tgt := 22) rfl (fun c => ?_) (fun c => ?_)
    · have c := (gle (rfl : nI (tn f i) = nI (tn f i)) (gk 1) (by omega) (by omega)).mp c
      refine gW_b D_Tr_mixedTrays 13 2 (pc' := 4) (l' := [(0, .ref 0), (1, .int (nI (mxc f i))), (2, .int ((nI i) + 1))]) (st' := []) (h' := cTr f) (P := True) rfl trivial ?_
      rw [show ((nI i) + 1 : Int32) = nI (i + 1) from (gadd (rfl : nI i = nI i) (gk 1))]
      rw [show mxc f i = mxc f (i + 1) from (if_pos c).symm]
      exact ih (i + 1) (by omega)
    · have c := mt (gle (rfl : nI (tn f i) = nI (tn f i)) (gk 1) (by omega) (by omega)).mpr c
      refine gW_b D_Tr_mixedTrays 12 3 (pc' := 4) (l' := [(0, .ref 0), (1, .int ((nI (mxc f i)) + 1)), (2, .int ((nI i) + 1))]) (st' := []) (h' := cTr f) (P := True) rfl trivial ?_
      rw [show ((nI (mxc f i)) + 1 : Int32) = nI ((mxc f i) + 1) from (gadd (rfl : nI (mxc f i) = nI (mxc f i)) (gk 1))]
      rw [show ((nI i) + 1 : Int32) = nI (i + 1) from (gadd (rfl : nI i = nI i) (gk 1))]
      rw [show mxc f i + 1 = mxc f (i + 1) from (if_neg c).symm]
      exact ih (i + 1) (by omega)
theorem m_mixedTrays (f : Nat → Int32) : gM K_Tr_mixedTrays { frames := 1, locals := 23, cells := 0, slots := 0 } [.ref 0] (cTr f) (gD (.inl (some (.int (nI (mxc f 6))))) (cTr f)) := by
  refine gM_of rfl rfl (Nat.le_of_ble_eq_true rfl) (fun sc => ?_)
  refine gW_b D_Tr_mixedTrays 0 4 (pc' := 4) (l' := [(0, .ref 0), (1, .int 0), (2, .int 0)]) (st' := []) (h' := cTr f) (P := True) rfl trivial ?_
  refine l_mixedTrays f ?_ 6 0 rfl
  refine gW_b D_Tr_mixedTrays 15 1 (pc' := 29) (l' := [(0, .ref 0), (1, .int (nI (mxc f 6))), (2, .int (nI 6))]) (st' := [.int (nI (mxc f 6))]) (h' := cTr f) (P := True) rfl trivial ?_
  exact gW_iret (gdec_at D_Tr_mixedTrays 16 rfl) rfl rfl (Nat.le_of_ble_eq_true rfl) ⟨rfl, rfl⟩ (Nat.le_of_ble_eq_true rfl) (Nat.le_of_ble_eq_true rfl)
def emc (f : Nat → Int32) : Nat → Nat
  | 0 => 0
  | i + 1 => if tn f i = 0 then emc f i + 1 else emc f i
theorem emc_le (f : Nat → Int32) : ∀ i, emc f i ≤ i
  | 0 => Nat.le_refl _
  | i + 1 => by
    have := emc_le f i
    unfold emc
    split <;> omega
theorem l_emptyTrays (f : Nat → Int32) {sc : Nat × (Nat → Int32)} {n0 : Nat} {E : gO → gH → Prop} (kk : gW K_Tr_emptyTrays sc { frames := 1, locals := 23, cells := 0, slots := 0 } n0 E 0 0 27 [(0, .ref 0), (1, .int (nI (emc f 6))), (2, .int (nI 6))] [] (cTr f)) : ∀ (n i : Nat), i + n = 6 → gW K_Tr_emptyTrays sc { frames := 1, locals := 23, cells := 0, slots := 0 } n0 E 0 0 4 [(0, .ref 0), (1, .int (nI (emc f i))), (2, .int (nI i))] [] (cTr f) := by
  intro n
  induction n with
  | zero =>
    intro i hi
    obtain rfl : 6 = i := by omega
    refine gW_b D_Tr_emptyTrays 4 2 (pc' := 7) (l' := [(0, .ref 0), (1, .int (nI (emc f 6))), (2, .int (nI 6))]) (st' := [.int 6, .int (nI 6)]) (h' := cTr f) (P := True) rfl trivial ?_
    refine gW_ic_ge (gdec_at D_Tr_emptyTrays 6 rfl) (tgt := 27) rfl (fun _ => ?_) (fun cq => absurd ((gle (gk 6) (rfl : nI 6 = nI 6) (by omega) (by omega)).mpr (by omega)) cq)
    exact kk
  | succ n ih =>
    intro i hi
    refine gW_b D_Tr_emptyTrays 4 2 (pc' := 7) (l' := [(0, .ref 0), (1, .int (nI (emc f i))), (2, .int (nI i))]) (st' := [.int 6, .int (nI i)]) (h' := cTr f) (P := True) rfl trivial ?_
    refine gW_ic_ge (gdec_at D_Tr_emptyTrays 6 rfl) (tgt := 27) rfl (fun cq => absurd cq (mt (gle (gk 6) (rfl : nI i = nI i) (by omega) (by omega)).mp (by omega))) (fun _ => ?_)
    have hb := emc_le f i
    have hb2 := tn_le f i
    refine gW_b D_Tr_emptyTrays 7 2 (pc' := 12) (l' := [(0, .ref 0), (1, .int (nI (emc f i))), (2, .int (nI i))]) (st' := [.int (nI i), .ref 0]) (h' := cTr f) (P := True) rfl trivial ?_
    refine gW_callV (m_tonesIn f i (by omega)) lk_Tr_32 [0, 1] (gdec_at D_Tr_emptyTrays 9 rfl) (st := []) rfl rfl ⟨rfl, rfl⟩ (Nat.le_of_ble_eq_true rfl) rfl (by decide) rfl (Nat.le_of_ble_eq_true rfl) ⟨Nat.le_of_ble_eq_true rfl, Nat.le_of_ble_eq_true rfl⟩ ⟨Nat.le_of_ble_eq_true rfl, Nat.le_of_ble_eq_true rfl⟩ (gAft_r rfl rfl (h' := cTr f) (st' := [.int (nI (tn f i))]) (pc' := 15) (cs' := 0) (ss' := 0) rfl rfl rfl rfl rfl ?_)
    refine gW_if_ne (gdec_at D_Tr_emptyTrays 10 rfl) (tgt := 21) rfl (fun c => ?_) (fun c => ?_)
    · have c := mt (geq (rfl : nI (tn f i) = nI (tn f i)) (gk 0) (by omega) (by omega)).mpr c
      refine gW_b D_Tr_emptyTrays 12 2 (pc' := 4) (l' := [(0, .ref 0), (1, .int (nI (emc f i))), (2, .int ((nI i) + 1))]) (st' := []) (h' := cTr f) (P := True) rfl trivial ?_
      rw [show ((nI i) + 1 : Int32) = nI (i + 1) from (gadd (rfl : nI i = nI i) (gk 1))]
      rw [show emc f i = emc f (i + 1) from (if_neg c).symm]
      exact ih (i + 1) (by omega)
    · have c := (geq (rfl : nI (tn f i) = nI (tn f i)) (gk 0) (by omega) (by omega)).mp c
      refine gW_b D_Tr_emptyTrays 11 3 (pc' := 4) (l' := [(0, .ref 0), (1, .int ((nI (emc f i)) + 1)), (2, .int ((nI i) + 1))]) (st' := []) (h' := cTr f) (P := True) rfl trivial ?_
      rw [show ((nI (emc f i)) + 1 : Int32) = nI ((emc f i) + 1) from (gadd (rfl : nI (emc f i) = nI (emc f i)) (gk 1))]
      rw [show ((nI i) + 1 : Int32) = nI (i + 1) from (gadd (rfl : nI i = nI i) (gk 1))]
      rw [show emc f i + 1 = emc f (i + 1) from (if_pos c).symm]
      exact ih (i + 1) (by omega)
theorem m_emptyTrays (f : Nat → Int32) : gM K_Tr_emptyTrays { frames := 1, locals := 23, cells := 0, slots := 0 } [.ref 0] (cTr f) (gD (.inl (some (.int (nI (emc f 6))))) (cTr f)) := by
  refine gM_of rfl rfl (Nat.le_of_ble_eq_true rfl) (fun sc => ?_)
  refine gW_b D_Tr_emptyTrays 0 4 (pc' := 4) (l' := [(0, .ref 0), (1, .int 0), (2, .int 0)]) (st' := []) (h' := cTr f) (P := True) rfl trivial ?_
  refine l_emptyTrays f ?_ 6 0 rfl
  refine gW_b D_Tr_emptyTrays 14 1 (pc' := 28) (l' := [(0, .ref 0), (1, .int (nI (emc f 6))), (2, .int (nI 6))]) (st' := [.int (nI (emc f 6))]) (h' := cTr f) (P := True) rfl trivial ?_
  exact gW_iret (gdec_at D_Tr_emptyTrays 15 rfl) rfl rfl (Nat.le_of_ble_eq_true rfl) ⟨rfl, rfl⟩ (Nat.le_of_ble_eq_true rfl) (Nat.le_of_ble_eq_true rfl)
def hO (f : Nat → Int32) (t : Nat) : Int32 := 0 + f (0 * 4 + t) + f (1 * 4 + t) + f (2 * 4 + t) + f (3 * 4 + t) + f (4 * 4 + t) + f (5 * 4 + t)

theorem m_heldOf (f : Nat → Int32) (t : Nat) (ht : t < 4) : gM K_Tr_heldOf { frames := 1, locals := 23, cells := 0, slots := 0 } [.ref 0, .int (nI t)] (cTr f) (gD (.inl (some (.int (hO f t)))) (cTr f)) := by
  refine gM_of rfl rfl (Nat.le_of_ble_eq_true rfl) (fun sc => ?_)
  refine gW_b D_Tr_heldOf 0 6 (pc' := 7) (l' := [(0, .ref 0), (1, .int (nI t)), (2, .int 0), (3, .int 0)]) (st' := [.int 6, .int 0]) (h' := cTr f) (P := True) rfl trivial ?_
  refine gW_ic_ge (gdec_at D_Tr_heldOf 6 rfl) (tgt := 25) rfl (fun cq => absurd cq (by decide)) (fun _ => ?_)
  refine gW_b D_Tr_heldOf 7 4 (pc' := 14) (l' := [(0, .ref 0), (1, .int (nI t)), (2, .int 0), (3, .int 0)]) (st' := [.int (nI t), .int 0, .ref 0, .int 0]) (h' := cTr f) (P := True) rfl trivial ?_
  refine gW_callV (m_held f 0 t (by omega) (by omega)) lk_Tr_19 [0, 1] (gdec_at D_Tr_heldOf 11 rfl) (st := [.int 0]) rfl rfl ⟨rfl, rfl⟩ (Nat.le_of_ble_eq_true rfl) rfl (by decide) rfl (Nat.le_of_ble_eq_true rfl) ⟨Nat.le_of_ble_eq_true rfl, Nat.le_of_ble_eq_true rfl⟩ ⟨Nat.le_of_ble_eq_true rfl, Nat.le_of_ble_eq_true rfl⟩ (gAft_r rfl rfl (h' := cTr f) (st' := [.int (f (0 * 4 + t)), .int 0]) (pc' := 17) (cs' := 0) (ss' := 0) rfl rfl rfl rfl rfl ?_)
  refine gW_b D_Tr_heldOf 12 4 (pc' := 4) (l' := [(0, .ref 0), (1, .int (nI t)), (2, .int (0 + (f (0 * 4 + t)))), (3, .int 1)]) (st' := []) (h' := cTr f) (P := True) rfl trivial ?_
  refine gW_b D_Tr_heldOf 4 2 (pc' := 7) (l' := [(0, .ref 0), (1, .int (nI t)), (2, .int (0 + (f (0 * 4 + t)))), (3, .int 1)]) (st' := [.int 6, .int 1]) (h' := cTr f) (P := True) rfl trivial ?_
  refine gW_ic_ge (gdec_at D_Tr_heldOf 6 rfl) (tgt := 25) rfl (fun cq => absurd cq (by decide)) (fun _ => ?_)
  refine gW_b D_Tr_heldOf 7 4 (pc' := 14) (l' := [(0, .ref 0), (1, .int (nI t)), (2, .int (0 + (f (0 * 4 + t)))), (3, .int 1)]) (st' := [.int (nI t), .int 1, .ref 0, .int (0 + (f (0 * 4 + t)))]) (h' := cTr f) (P := True) rfl trivial ?_
  refine gW_callV (m_held f 1 t (by omega) (by omega)) lk_Tr_19 [0, 1] (gdec_at D_Tr_heldOf 11 rfl) (st := [.int (0 + (f (0 * 4 + t)))]) rfl rfl ⟨rfl, rfl⟩ (Nat.le_of_ble_eq_true rfl) rfl (by decide) rfl (Nat.le_of_ble_eq_true rfl) ⟨Nat.le_of_ble_eq_true rfl, Nat.le_of_ble_eq_true rfl⟩ ⟨Nat.le_of_ble_eq_true rfl, Nat.le_of_ble_eq_true rfl⟩ (gAft_r rfl rfl (h' := cTr f) (st' := [.int (f (1 * 4 + t)), .int (0 + (f (0 * 4 + t)))]) (pc' := 17) (cs' := 0) (ss' := 0) rfl rfl rfl rfl rfl ?_)
  refine gW_b D_Tr_heldOf 12 4 (pc' := 4) (l' := [(0, .ref 0), (1, .int (nI t)), (2, .int ((0 + (f (0 * 4 + t))) + (f (1 * 4 + t)))), (3, .int 2)]) (st' := []) (h' := cTr f) (P := True) rfl trivial ?_
  refine gW_b D_Tr_heldOf 4 2 (pc' := 7) (l' := [(0, .ref 0), (1, .int (nI t)), (2, .int ((0 + (f (0 * 4 + t))) + (f (1 * 4 + t)))), (3, .int 2)]) (st' := [.int 6, .int 2]) (h' := cTr f) (P := True) rfl trivial ?_
  refine gW_ic_ge (gdec_at D_Tr_heldOf 6 rfl) (tgt := 25) rfl (fun cq => absurd cq (by decide)) (fun _ => ?_)
  refine gW_b D_Tr_heldOf 7 4 (pc' := 14) (l' := [(0, .ref 0), (1, .int (nI t)), (2, .int ((0 + (f (0 * 4 + t))) + (f (1 * 4 + t)))), (3, .int 2)]) (st' := [.int (nI t), .int 2, .ref 0, .int ((0 + (f (0 * 4 + t))) + (f (1 * 4 + t)))]) (h' := cTr f) (P := True) rfl trivial ?_
  refine gW_callV (m_held f 2 t (by omega) (by omega)) lk_Tr_19 [0, 1] (gdec_at D_Tr_heldOf 11 rfl) (st := [.int ((0 + (f (0 * 4 + t))) + (f (1 * 4 + t)))]) rfl rfl ⟨rfl, rfl⟩ (Nat.le_of_ble_eq_true rfl) rfl (by decide) rfl (Nat.le_of_ble_eq_true rfl) ⟨Nat.le_of_ble_eq_true rfl, Nat.le_of_ble_eq_true rfl⟩ ⟨Nat.le_of_ble_eq_true rfl, Nat.le_of_ble_eq_true rfl⟩ (gAft_r rfl rfl (h' := cTr f) (st' := [.int (f (2 * 4 + t)), .int ((0 + (f (0 * 4 + t))) + (f (1 * 4 + t)))]) (pc' := 17) (cs' := 0) (ss' := 0) rfl rfl rfl rfl rfl ?_)
  refine gW_b D_Tr_heldOf 12 4 (pc' := 4) (l' := [(0, .ref 0), (1, .int (nI t)), (2, .int (((0 + (f (0 * 4 + t))) + (f (1 * 4 + t))) + (f (2 * 4 + t)))), (3, .int 3)]) (st' := []) (h' := cTr f) (P := True) rfl trivial ?_
  refine gW_b D_Tr_heldOf 4 2 (pc' := 7) (l' := [(0, .ref 0), (1, .int (nI t)), (2, .int (((0 + (f (0 * 4 + t))) + (f (1 * 4 + t))) + (f (2 * 4 + t)))), (3, .int 3)]) (st' := [.int 6, .int 3]) (h' := cTr f) (P := True) rfl trivial ?_
  refine gW_ic_ge (gdec_at D_Tr_heldOf 6 rfl) (tgt := 25) rfl (fun cq => absurd cq (by decide)) (fun _ => ?_)
  refine gW_b D_Tr_heldOf 7 4 (pc' := 14) (l' := [(0, .ref 0), (1, .int (nI t)), (2, .int (((0 + (f (0 * 4 + t))) + (f (1 * 4 + t))) + (f (2 * 4 + t)))), (3, .int 3)]) (st' := [.int (nI t), .int 3, .ref 0, .int (((0 + (f (0 * 4 + t))) + (f (1 * 4 + t))) + (f (2 * 4 + t)))]) (h' := cTr f) (P := True) rfl trivial ?_
  refine gW_callV (m_held f 3 t (by omega) (by omega)) lk_Tr_19 [0, 1] (gdec_at D_Tr_heldOf 11 rfl) (st := [.int (((0 + (f (0 * 4 + t))) + (f (1 * 4 + t))) + (f (2 * 4 + t)))]) rfl rfl ⟨rfl, rfl⟩ (Nat.le_of_ble_eq_true rfl) rfl (by decide) rfl (Nat.le_of_ble_eq_true rfl) ⟨Nat.le_of_ble_eq_true rfl, Nat.le_of_ble_eq_true rfl⟩ ⟨Nat.le_of_ble_eq_true rfl, Nat.le_of_ble_eq_true rfl⟩ (gAft_r rfl rfl (h' := cTr f) (st' := [.int (f (3 * 4 + t)), .int (((0 + (f (0 * 4 + t))) + (f (1 * 4 + t))) + (f (2 * 4 + t)))]) (pc' := 17) (cs' := 0) (ss' := 0) rfl rfl rfl rfl rfl ?_)
  refine gW_b D_Tr_heldOf 12 4 (pc' := 4) (l' := [(0, .ref 0), (1, .int (nI t)), (2, .int ((((0 + (f (0 * 4 + t))) + (f (1 * 4 + t))) + (f (2 * 4 + t))) + (f (3 * 4 + t)))), (3, .int 4)]) (st' := []) (h' := cTr f) (P := True) rfl trivial ?_
  refine gW_b D_Tr_heldOf 4 2 (pc' := 7) (l' := [(0, .ref 0), (1, .int (nI t)), (2, .int ((((0 + (f (0 * 4 + t))) + (f (1 * 4 + t))) + (f (2 * 4 + t))) + (f (3 * 4 + t)))), (3, .int 4)]) (st' := [.int 6, .int 4]) (h' := cTr f) (P := True) rfl trivial ?_
  refine gW_ic_ge (gdec_at D_Tr_heldOf 6 rfl) (tgt := 25) rfl (fun cq => absurd cq (by decide)) (fun _ => ?_)
  refine gW_b D_Tr_heldOf 7 4 (pc' := 14) (l' := [(0, .ref 0), (1, .int (nI t)), (2, .int ((((0 + (f (0 * 4 + t))) + (f (1 * 4 + t))) + (f (2 * 4 + t))) + (f (3 * 4 + t)))), (3, .int 4)]) (st' := [.int (nI t), .int 4, .ref 0, .int ((((0 + (f (0 * 4 + t))) + (f (1 * 4 + t))) + (f (2 * 4 + t))) + (f (3 * 4 + t)))]) (h' := cTr f) (P := True) rfl trivial ?_
  refine gW_callV (m_held f 4 t (by omega) (by omega)) lk_Tr_19 [0, 1] (gdec_at D_Tr_heldOf 11 rfl) (st := [.int ((((0 + (f (0 * 4 + t))) + (f (1 * 4 + t))) + (f (2 * 4 + t))) + (f (3 * 4 + t)))]) rfl rfl ⟨rfl, rfl⟩ (Nat.le_of_ble_eq_true rfl) rfl (by decide) rfl (Nat.le_of_ble_eq_true rfl) ⟨Nat.le_of_ble_eq_true rfl, Nat.le_of_ble_eq_true rfl⟩ ⟨Nat.le_of_ble_eq_true rfl, Nat.le_of_ble_eq_true rfl⟩ (gAft_r rfl rfl (h' := cTr f) (st' := [.int (f (4 * 4 + t)), .int ((((0 + (f (0 * 4 + t))) + (f (1 * 4 + t))) + (f (2 * 4 + t))) + (f (3 * 4 + t)))]) (pc' := 17) (cs' := 0) (ss' := 0) rfl rfl rfl rfl rfl ?_)
  refine gW_b D_Tr_heldOf 12 4 (pc' := 4) (l' := [(0, .ref 0), (1, .int (nI t)), (2, .int (((((0 + (f (0 * 4 + t))) + (f (1 * 4 + t))) + (f (2 * 4 + t))) + (f (3 * 4 + t))) + (f (4 * 4 + t)))), (3, .int 5)]) (st' := []) (h' := cTr f) (P := True) rfl trivial ?_
  refine gW_b D_Tr_heldOf 4 2 (pc' := 7) (l' := [(0, .ref 0), (1, .int (nI t)), (2, .int (((((0 + (f (0 * 4 + t))) + (f (1 * 4 + t))) + (f (2 * 4 + t))) + (f (3 * 4 + t))) + (f (4 * 4 + t)))), (3, .int 5)]) (st' := [.int 6, .int 5]) (h' := cTr f) (P := True) rfl trivial ?_
  refine gW_ic_ge (gdec_at D_Tr_heldOf 6 rfl) (tgt := 25) rfl (fun cq => absurd cq (by decide)) (fun _ => ?_)
  refine gW_b D_Tr_heldOf 7 4 (pc' := 14) (l' := [(0, .ref 0), (1, .int (nI t)), (2, .int (((((0 + (f (0 * 4 + t))) + (f (1 * 4 + t))) + (f (2 * 4 + t))) + (f (3 * 4 + t))) + (f (4 * 4 + t)))), (3, .int 5)]) (st' := [.int (nI t), .int 5, .ref 0, .int (((((0 + (f (0 * 4 + t))) + (f (1 * 4 + t))) + (f (2 * 4 + t))) + (f (3 * 4 + t))) + (f (4 * 4 + t)))]) (h' := cTr f) (P := True) rfl trivial ?_
  refine gW_callV (m_held f 5 t (by omega) (by omega)) lk_Tr_19 [0, 1] (gdec_at D_Tr_heldOf 11 rfl) (st := [.int (((((0 + (f (0 * 4 + t))) + (f (1 * 4 + t))) + (f (2 * 4 + t))) + (f (3 * 4 + t))) + (f (4 * 4 + t)))]) rfl rfl ⟨rfl, rfl⟩ (Nat.le_of_ble_eq_true rfl) rfl (by decide) rfl (Nat.le_of_ble_eq_true rfl) ⟨Nat.le_of_ble_eq_true rfl, Nat.le_of_ble_eq_true rfl⟩ ⟨Nat.le_of_ble_eq_true rfl, Nat.le_of_ble_eq_true rfl⟩ (gAft_r rfl rfl (h' := cTr f) (st' := [.int (f (5 * 4 + t)), .int (((((0 + (f (0 * 4 + t))) + (f (1 * 4 + t))) + (f (2 * 4 + t))) + (f (3 * 4 + t))) + (f (4 * 4 + t)))]) (pc' := 17) (cs' := 0) (ss' := 0) rfl rfl rfl rfl rfl ?_)
  refine gW_b D_Tr_heldOf 12 4 (pc' := 4) (l' := [(0, .ref 0), (1, .int (nI t)), (2, .int ((((((0 + (f (0 * 4 + t))) + (f (1 * 4 + t))) + (f (2 * 4 + t))) + (f (3 * 4 + t))) + (f (4 * 4 + t))) + (f (5 * 4 + t)))), (3, .int 6)]) (st' := []) (h' := cTr f) (P := True) rfl trivial ?_
  refine gW_b D_Tr_heldOf 4 2 (pc' := 7) (l' := [(0, .ref 0), (1, .int (nI t)), (2, .int ((((((0 + (f (0 * 4 + t))) + (f (1 * 4 + t))) + (f (2 * 4 + t))) + (f (3 * 4 + t))) + (f (4 * 4 + t))) + (f (5 * 4 + t)))), (3, .int 6)]) (st' := [.int 6, .int 6]) (h' := cTr f) (P := True) rfl trivial ?_
  refine gW_ic_ge (gdec_at D_Tr_heldOf 6 rfl) (tgt := 25) rfl (fun _ => ?_) (fun cq => absurd (by decide) cq)
  refine gW_b D_Tr_heldOf 16 1 (pc' := 26) (l' := [(0, .ref 0), (1, .int (nI t)), (2, .int ((((((0 + (f (0 * 4 + t))) + (f (1 * 4 + t))) + (f (2 * 4 + t))) + (f (3 * 4 + t))) + (f (4 * 4 + t))) + (f (5 * 4 + t)))), (3, .int 6)]) (st' := [.int ((((((0 + (f (0 * 4 + t))) + (f (1 * 4 + t))) + (f (2 * 4 + t))) + (f (3 * 4 + t))) + (f (4 * 4 + t))) + (f (5 * 4 + t)))]) (h' := cTr f) (P := True) rfl trivial ?_
  exact gW_iret (gdec_at D_Tr_heldOf 17 rfl) rfl rfl (Nat.le_of_ble_eq_true rfl) ⟨rfl, rfl⟩ (Nat.le_of_ble_eq_true rfl) (Nat.le_of_ble_eq_true rfl)
/-- the cubes of tone t in the first i trays, of those that are not mixed up -/
def rdc (f : Nat → Int32) (t : Nat) : Nat → Int32
  | 0 => 0
  | i + 1 => if f (i * 4 + t) ≤ 0 then rdc f t i else if tn f i = 1 then rdc f t i + f (i * 4 + t) else rdc f t i
theorem l_readyOf (f : Nat → Int32) (t : Nat) (ht : t < 4) {sc : Nat × (Nat → Int32)} {n0 : Nat} {E : gO → gH → Prop} (kk : gW K_Tr_readyOf sc { frames := 1, locals := 23, cells := 0, slots := 0 } n0 E 0 0 43 [(0, .ref 0), (1, .int (nI t)), (2, .int (rdc f t 6)), (3, .int (nI 6))] [] (cTr f)) : ∀ (n i : Nat), i + n = 6 → gW K_Tr_readyOf sc { frames := 1, locals := 23, cells := 0, slots := 0 } n0 E 0 0 4 [(0, .ref 0), (1, .int (nI t)), (2, .int (rdc f t i)), (3, .int (nI i))] [] (cTr f) := by
  intro n
  induction n with
  | zero =>
    intro i hi
    obtain rfl : 6 = i := by omega
    refine gW_b D_Tr_readyOf 4 2 (pc' := 7) (l' := [(0, .ref 0), (1, .int (nI t)), (2, .int (rdc f t 6)), (3, .int (nI 6))]) (st' := [.int 6, .int (nI 6)]) (h' := cTr f) (P := True) rfl trivial ?_
    refine gW_ic_ge (gdec_at D_Tr_readyOf 6 rfl) (tgt := 43) rfl (fun _ => ?_) (fun cq => absurd ((gle (gk 6) (rfl : nI 6 = nI 6) (by omega) (by omega)).mpr (by omega)) cq)
    exact kk
  | succ n ih =>
    intro i hi
    refine gW_b D_Tr_readyOf 4 2 (pc' := 7) (l' := [(0, .ref 0), (1, .int (nI t)), (2, .int (rdc f t i)), (3, .int (nI i))]) (st' := [.int 6, .int (nI i)]) (h' := cTr f) (P := True) rfl trivial ?_
    refine gW_ic_ge (gdec_at D_Tr_readyOf 6 rfl) (tgt := 43) rfl (fun cq => absurd cq (mt (gle (gk 6) (rfl : nI i = nI i) (by omega) (by omega)).mp (by omega))) (fun _ => ?_)
    have hb2 := tn_le f i
    refine gW_b D_Tr_readyOf 7 3 (pc' := 13) (l' := [(0, .ref 0), (1, .int (nI t)), (2, .int (rdc f t i)), (3, .int (nI i))]) (st' := [.int (nI t), .int (nI i), .ref 0]) (h' := cTr f) (P := True) rfl trivial ?_
    refine gW_callV (m_held f i t (by omega) (by omega)) lk_Tr_19 [0, 1] (gdec_at D_Tr_readyOf 10 rfl) (st := []) rfl rfl ⟨rfl, rfl⟩ (Nat.le_of_ble_eq_true rfl) rfl (by decide) rfl (Nat.le_of_ble_eq_true rfl) ⟨Nat.le_of_ble_eq_true rfl, Nat.le_of_ble_eq_true rfl⟩ ⟨Nat.le_of_ble_eq_true rfl, Nat.le_of_ble_eq_true rfl⟩ (gAft_r rfl rfl (h' := cTr f) (st' := [.int (f (i * 4 + t))]) (pc' := 16) (cs' := 0) (ss' := 0) rfl rfl rfl rfl rfl ?_)
    refine gW_if_le (gdec_at D_Tr_readyOf 11 rfl) (tgt := 37) rfl (fun c => ?_) (fun c => ?_)
    · skip
      refine gW_b D_Tr_readyOf 24 2 (pc' := 4) (l' := [(0, .ref 0), (1, .int (nI t)), (2, .int (rdc f t i)), (3, .int ((nI i) + 1))]) (st' := []) (h' := cTr f) (P := True) rfl trivial ?_
      rw [show ((nI i) + 1 : Int32) = nI (i + 1) from (gadd (rfl : nI i = nI i) (gk 1))]
      rw [show rdc f t i = rdc f t (i + 1) from (if_pos c).symm]
      exact ih (i + 1) (by omega)
    · skip
      refine gW_b D_Tr_readyOf 12 2 (pc' := 21) (l' := [(0, .ref 0), (1, .int (nI t)), (2, .int (rdc f t i)), (3, .int (nI i))]) (st' := [.int (nI i), .ref 0]) (h' := cTr f) (P := True) rfl trivial ?_
      refine gW_callV (m_tonesIn f i (by omega)) lk_Tr_32 [0, 1] (gdec_at D_Tr_readyOf 14 rfl) (st := []) rfl rfl ⟨rfl, rfl⟩ (Nat.le_of_ble_eq_true rfl) rfl (by decide) rfl (Nat.le_of_ble_eq_true rfl) ⟨Nat.le_of_ble_eq_true rfl, Nat.le_of_ble_eq_true rfl⟩ ⟨Nat.le_of_ble_eq_true rfl, Nat.le_of_ble_eq_true rfl⟩ (gAft_r rfl rfl (h' := cTr f) (st' := [.int (nI (tn f i))]) (pc' := 24) (cs' := 0) (ss' := 0) rfl rfl rfl rfl rfl ?_)
      refine gW_b D_Tr_readyOf 15 1 (pc' := 25) (l' := [(0, .ref 0), (1, .int (nI t)), (2, .int (rdc f t i)), (3, .int (nI i))]) (st' := [.int 1, .int (nI (tn f i))]) (h' := cTr f) (P := True) rfl trivial ?_
      refine gW_ic_ne (gdec_at D_Tr_readyOf 16 rfl) (tgt := 37) rfl (fun d => ?_) (fun d => ?_)
      · have d := mt (geq (rfl : nI (tn f i) = nI (tn f i)) (gk 1) (by omega) (by omega)).mpr d
        refine gW_b D_Tr_readyOf 24 2 (pc' := 4) (l' := [(0, .ref 0), (1, .int (nI t)), (2, .int (rdc f t i)), (3, .int ((nI i) + 1))]) (st' := []) (h' := cTr f) (P := True) rfl trivial ?_
        rw [show ((nI i) + 1 : Int32) = nI (i + 1) from (gadd (rfl : nI i = nI i) (gk 1))]
        rw [show rdc f t i = rdc f t (i + 1) from ((if_neg c).trans (if_neg d)).symm]
        exact ih (i + 1) (by omega)
      · have d := (geq (rfl : nI (tn f i) = nI (tn f i)) (gk 1) (by omega) (by omega)).mp d
        refine gW_b D_Tr_readyOf 17 4 (pc' := 32) (l' := [(0, .ref 0), (1, .int (nI t)), (2, .int (rdc f t i)), (3, .int (nI i))]) (st' := [.int (nI t), .int (nI i), .ref 0, .int (rdc f t i)]) (h' := cTr f) (P := True) rfl trivial ?_
        refine gW_callV (m_held f i t (by omega) (by omega)) lk_Tr_19 [0, 1] (gdec_at D_Tr_readyOf 21 rfl) (st := [.int (rdc f t i)]) rfl rfl ⟨rfl, rfl⟩ (Nat.le_of_ble_eq_true rfl) rfl (by decide) rfl (Nat.le_of_ble_eq_true rfl) ⟨Nat.le_of_ble_eq_true rfl, Nat.le_of_ble_eq_true rfl⟩ ⟨Nat.le_of_ble_eq_true rfl, Nat.le_of_ble_eq_true rfl⟩ (gAft_r rfl rfl (h' := cTr f) (st' := [.int (f (i * 4 + t)), .int (rdc f t i)]) (pc' := 35) (cs' := 0) (ss' := 0) rfl rfl rfl rfl rfl ?_)
        refine gW_b D_Tr_readyOf 22 4 (pc' := 4) (l' := [(0, .ref 0), (1, .int (nI t)), (2, .int ((rdc f t i) + (f (i * 4 + t)))), (3, .int ((nI i) + 1))]) (st' := []) (h' := cTr f) (P := True) rfl trivial ?_
        rw [show ((nI i) + 1 : Int32) = nI (i + 1) from (gadd (rfl : nI i = nI i) (gk 1))]
        rw [show rdc f t i + f (i * 4 + t) = rdc f t (i + 1) from ((if_neg c).trans (if_pos d)).symm]
        exact ih (i + 1) (by omega)
theorem m_readyOf (f : Nat → Int32) (t : Nat) (ht : t < 4) : gM K_Tr_readyOf { frames := 1, locals := 23, cells := 0, slots := 0 } [.ref 0, .int (nI t)] (cTr f) (gD (.inl (some (.int (rdc f t 6)))) (cTr f)) := by
  refine gM_of rfl rfl (Nat.le_of_ble_eq_true rfl) (fun sc => ?_)
  refine gW_b D_Tr_readyOf 0 4 (pc' := 4) (l' := [(0, .ref 0), (1, .int (nI t)), (2, .int 0), (3, .int 0)]) (st' := []) (h' := cTr f) (P := True) rfl trivial ?_
  refine l_readyOf f t ht ?_ 6 0 rfl
  refine gW_b D_Tr_readyOf 26 1 (pc' := 44) (l' := [(0, .ref 0), (1, .int (nI t)), (2, .int (rdc f t 6)), (3, .int (nI 6))]) (st' := [.int (rdc f t 6)]) (h' := cTr f) (P := True) rfl trivial ?_
  exact gW_iret (gdec_at D_Tr_readyOf 27 rfl) rfl rfl (Nat.le_of_ble_eq_true rfl) ⟨rfl, rfl⟩ (Nat.le_of_ble_eq_true rfl) (Nat.le_of_ble_eq_true rfl)
def pmI (f : Nat → Int32) (a t : Nat) (r : Int32) : Int32 := if r < f (a * 4 + t) then r else f (a * 4 + t)
def pourF (f : Nat → Int32) (a b t : Nat) (m : Int32) : Nat → Int32 := upd (upd f (a * 4 + t) (f (a * 4 + t) + -m)) (b * 4 + t) (upd f (a * 4 + t) (f (a * 4 + t) + -m) (b * 4 + t) + m)

theorem m_pour (f : Nat → Int32) (a b t : Nat) (r : Int32) (ha : a < 6) (hb : b < 6) (ht : t < 4) : gM K_Tr_pour { frames := 1, locals := 23, cells := 0, slots := 0 } [.ref 0, .int (nI a), .int (nI b), .int (nI t), .int r] (cTr f) (gD (.inl (some (.int (pmI f a t r)))) (cTr (pourF f a b t (pmI f a t r)))) := by
  refine gM_of rfl rfl (Nat.le_of_ble_eq_true rfl) (fun sc => ?_)
  refine gW_b D_Tr_pour 0 3 (pc' := 3) (l' := [(0, .ref 0), (1, .int (nI a)), (2, .int (nI b)), (3, .int (nI t)), (4, .int r)]) (st' := [.int (nI t), .int (nI a), .ref 0]) (h' := cTr f) (P := True) rfl trivial ?_
  refine gW_callV (m_held f a t (by omega) (by omega)) lk_Tr_19 [0, 1] (gdec_at D_Tr_pour 3 rfl) (st := []) rfl rfl ⟨rfl, rfl⟩ (Nat.le_of_ble_eq_true rfl) rfl (by decide) rfl (Nat.le_of_ble_eq_true rfl) ⟨Nat.le_of_ble_eq_true rfl, Nat.le_of_ble_eq_true rfl⟩ ⟨Nat.le_of_ble_eq_true rfl, Nat.le_of_ble_eq_true rfl⟩ (gAft_r rfl rfl (h' := cTr f) (st' := [.int (f (a * 4 + t))]) (pc' := 6) (cs' := 0) (ss' := 0) rfl rfl rfl rfl rfl ?_)
  refine gW_b D_Tr_pour 4 1 (pc' := 8) (l' := [(0, .ref 0), (1, .int (nI a)), (2, .int (nI b)), (3, .int (nI t)), (4, .int r)]) (st' := [.int r, .int (f (a * 4 + t))]) (h' := cTr f) (P := True) rfl trivial ?_
  refine gW_min (gmem 380 (by decide +kernel)) (gdec_at D_Tr_pour 5 rfl) (Nat.le_of_ble_eq_true rfl) (Nat.le_of_ble_eq_true rfl) (Nat.le_of_ble_eq_true rfl) (Nat.le_of_ble_eq_true rfl) ?_
  rw [show (if r < f (a * 4 + t) then r else f (a * 4 + t) : Int32) = pmI f a t r from rfl]
  refine gW_b D_Tr_pour 6 6 (pc' := 19) (l' := [(0, .ref 0), (1, .int (nI a)), (2, .int (nI b)), (3, .int (nI t)), (4, .int r), (5, .int (pmI f a t r))]) (st' := [.int (-(pmI f a t r)), .int (nI t), .int (nI a), .ref 0]) (h' := cTr f) (P := True) rfl trivial ?_
  refine gW_callV (m_change f a t (-(pmI f a t r)) (by omega) (by omega)) lk_Tr_38 [0, 1] (gdec_at D_Tr_pour 12 rfl) (st := []) rfl rfl ⟨rfl, rfl⟩ (Nat.le_of_ble_eq_true rfl) rfl (by decide) rfl (Nat.le_of_ble_eq_true rfl) ⟨Nat.le_of_ble_eq_true rfl, Nat.le_of_ble_eq_true rfl⟩ ⟨Nat.le_of_ble_eq_true rfl, Nat.le_of_ble_eq_true rfl⟩ (gAft_r rfl rfl (h' := cTr (upd f (a * 4 + t) ((f (a * 4 + t)) + (-(pmI f a t r))))) (st' := []) (pc' := 22) (cs' := 0) (ss' := 0) rfl rfl rfl rfl rfl ?_)
  refine gW_b D_Tr_pour 13 4 (pc' := 27) (l' := [(0, .ref 0), (1, .int (nI a)), (2, .int (nI b)), (3, .int (nI t)), (4, .int r), (5, .int (pmI f a t r))]) (st' := [.int (pmI f a t r), .int (nI t), .int (nI b), .ref 0]) (h' := cTr (upd f (a * 4 + t) ((f (a * 4 + t)) + (-(pmI f a t r))))) (P := True) rfl trivial ?_
  refine gW_callV (m_change (upd f (a * 4 + t) ((f (a * 4 + t)) + (-(pmI f a t r)))) b t (pmI f a t r) (by omega) (by omega)) lk_Tr_38 [0, 1] (gdec_at D_Tr_pour 17 rfl) (st := []) rfl rfl ⟨rfl, rfl⟩ (Nat.le_of_ble_eq_true rfl) rfl (by decide) rfl (Nat.le_of_ble_eq_true rfl) ⟨Nat.le_of_ble_eq_true rfl, Nat.le_of_ble_eq_true rfl⟩ ⟨Nat.le_of_ble_eq_true rfl, Nat.le_of_ble_eq_true rfl⟩ (gAft_r rfl rfl (h' := cTr (upd (upd f (a * 4 + t) ((f (a * 4 + t)) + (-(pmI f a t r)))) (b * 4 + t) (((upd f (a * 4 + t) ((f (a * 4 + t)) + (-(pmI f a t r)))) (b * 4 + t)) + (pmI f a t r)))) (st' := []) (pc' := 30) (cs' := 0) (ss' := 0) rfl rfl rfl rfl rfl ?_)
  refine gW_b D_Tr_pour 18 1 (pc' := 32) (l' := [(0, .ref 0), (1, .int (nI a)), (2, .int (nI b)), (3, .int (nI t)), (4, .int r), (5, .int (pmI f a t r))]) (st' := [.int (pmI f a t r)]) (h' := cTr (upd (upd f (a * 4 + t) ((f (a * 4 + t)) + (-(pmI f a t r)))) (b * 4 + t) (((upd f (a * 4 + t) ((f (a * 4 + t)) + (-(pmI f a t r)))) (b * 4 + t)) + (pmI f a t r)))) (P := True) rfl trivial ?_
  exact gW_iret (gdec_at D_Tr_pour 19 rfl) rfl rfl (Nat.le_of_ble_eq_true rfl) ⟨rfl, rfl⟩ (Nat.le_of_ble_eq_true rfl) (Nat.le_of_ble_eq_true rfl)

theorem m_clear (f : Nat → Int32) (a t : Nat) (ha : a < 6) (ht : t < 4) : gM K_Tr_clear { frames := 1, locals := 23, cells := 0, slots := 0 } [.ref 0, .int (nI a), .int (nI t)] (cTr f) (gD (.inl (some (.int (f (a * 4 + t))))) (cTr (upd f (a * 4 + t) (f (a * 4 + t) + -(f (a * 4 + t)))))) := by
  refine gM_of rfl rfl (Nat.le_of_ble_eq_true rfl) (fun sc => ?_)
  refine gW_b D_Tr_clear 0 3 (pc' := 3) (l' := [(0, .ref 0), (1, .int (nI a)), (2, .int (nI t))]) (st' := [.int (nI t), .int (nI a), .ref 0]) (h' := cTr f) (P := True) rfl trivial ?_
  refine gW_callV (m_held f a t (by omega) (by omega)) lk_Tr_19 [0, 1] (gdec_at D_Tr_clear 3 rfl) (st := []) rfl rfl ⟨rfl, rfl⟩ (Nat.le_of_ble_eq_true rfl) rfl (by decide) rfl (Nat.le_of_ble_eq_true rfl) ⟨Nat.le_of_ble_eq_true rfl, Nat.le_of_ble_eq_true rfl⟩ ⟨Nat.le_of_ble_eq_true rfl, Nat.le_of_ble_eq_true rfl⟩ (gAft_r rfl rfl (h' := cTr f) (st' := [.int (f (a * 4 + t))]) (pc' := 6) (cs' := 0) (ss' := 0) rfl rfl rfl rfl rfl ?_)
  refine gW_b D_Tr_clear 4 6 (pc' := 12) (l' := [(0, .ref 0), (1, .int (nI a)), (2, .int (nI t)), (3, .int (f (a * 4 + t)))]) (st' := [.int (-(f (a * 4 + t))), .int (nI t), .int (nI a), .ref 0]) (h' := cTr f) (P := True) rfl trivial ?_
  refine gW_callV (m_change f a t (-(f (a * 4 + t))) (by omega) (by omega)) lk_Tr_38 [0, 1] (gdec_at D_Tr_clear 10 rfl) (st := []) rfl rfl ⟨rfl, rfl⟩ (Nat.le_of_ble_eq_true rfl) rfl (by decide) rfl (Nat.le_of_ble_eq_true rfl) ⟨Nat.le_of_ble_eq_true rfl, Nat.le_of_ble_eq_true rfl⟩ ⟨Nat.le_of_ble_eq_true rfl, Nat.le_of_ble_eq_true rfl⟩ (gAft_r rfl rfl (h' := cTr (upd f (a * 4 + t) ((f (a * 4 + t)) + (-(f (a * 4 + t)))))) (st' := []) (pc' := 15) (cs' := 0) (ss' := 0) rfl rfl rfl rfl rfl ?_)
  refine gW_b D_Tr_clear 11 1 (pc' := 16) (l' := [(0, .ref 0), (1, .int (nI a)), (2, .int (nI t)), (3, .int (f (a * 4 + t)))]) (st' := [.int (f (a * 4 + t))]) (h' := cTr (upd f (a * 4 + t) ((f (a * 4 + t)) + (-(f (a * 4 + t)))))) (P := True) rfl trivial ?_
  exact gW_iret (gdec_at D_Tr_clear 12 rfl) rfl rfl (Nat.le_of_ble_eq_true rfl) ⟨rfl, rfl⟩ (Nat.le_of_ble_eq_true rfl) (Nat.le_of_ble_eq_true rfl)
/-- of tones 0 to i the lowest of which tray a has most -/
def moc (f : Nat → Int32) (a : Nat) : Nat → Nat
  | 0 => 0
  | i + 1 => if f (a * 4 + (i + 1)) ≤ f (a * 4 + moc f a i) then moc f a i else i + 1
theorem moc_le (f : Nat → Int32) (a : Nat) : ∀ i, moc f a i ≤ i
  | 0 => Nat.le_refl _
  | i + 1 => by
    have := moc_le f a i
    unfold moc
    split <;> omega
theorem l_mostOf (f : Nat → Int32) (a : Nat) (ha : a < 6) {sc : Nat × (Nat → Int32)} {n0 : Nat} {E : gO → gH → Prop} (kk : gW K_Tr_mostOf sc { frames := 1, locals := 23, cells := 0, slots := 0 } n0 E 0 0 32 [(0, .ref 0), (1, .int (nI a)), (2, .int (nI (moc f a 3))), (3, .int (nI (3 + 1)))] [] (cTr f)) : ∀ (n i : Nat), i + n = 3 → gW K_Tr_mostOf sc { frames := 1, locals := 23, cells := 0, slots := 0 } n0 E 0 0 4 [(0, .ref 0), (1, .int (nI a)), (2, .int (nI (moc f a i))), (3, .int (nI (i + 1)))] [] (cTr f) := by
  intro n
  induction n with
  | zero =>
    intro i hi
    obtain rfl : 3 = i := by omega
    refine gW_b D_Tr_mostOf 4 2 (pc' := 6) (l' := [(0, .ref 0), (1, .int (nI a)), (2, .int (nI (moc f a 3))), (3, .int (nI (3 + 1)))]) (st' := [.int 4, .int (nI (3 + 1))]) (h' := cTr f) (P := True) rfl trivial ?_
    refine gW_ic_ge (gdec_at D_Tr_mostOf 6 rfl) (tgt := 32) rfl (fun _ => ?_) (fun cq => absurd ((gle (gk 4) (rfl : nI (3 + 1) = nI (3 + 1)) (by omega) (by omega)).mpr (by omega)) cq)
    exact kk
  | succ n ih =>
    intro i hi
    refine gW_b D_Tr_mostOf 4 2 (pc' := 6) (l' := [(0, .ref 0), (1, .int (nI a)), (2, .int (nI (moc f a i))), (3, .int (nI (i + 1)))]) (st' := [.int 4, .int (nI (i + 1))]) (h' := cTr f) (P := True) rfl trivial ?_
    refine gW_ic_ge (gdec_at D_Tr_mostOf 6 rfl) (tgt := 32) rfl (fun cq => absurd cq (mt (gle (gk 4) (rfl : nI (i + 1) = nI (i + 1)) (by omega) (by omega)).mp (by omega))) (fun _ => ?_)
    have hb2 := moc_le f a i
    refine gW_b D_Tr_mostOf 7 3 (pc' := 12) (l' := [(0, .ref 0), (1, .int (nI a)), (2, .int (nI (moc f a i))), (3, .int (nI (i + 1)))]) (st' := [.int (nI (i + 1)), .int (nI a), .ref 0]) (h' := cTr f) (P := True) rfl trivial ?_
    refine gW_callV (m_held f a (i + 1) (by omega) (by omega)) lk_Tr_19 [0, 1] (gdec_at D_Tr_mostOf 10 rfl) (st := []) rfl rfl ⟨rfl, rfl⟩ (Nat.le_of_ble_eq_true rfl) rfl (by decide) rfl (Nat.le_of_ble_eq_true rfl) ⟨Nat.le_of_ble_eq_true rfl, Nat.le_of_ble_eq_true rfl⟩ ⟨Nat.le_of_ble_eq_true rfl, Nat.le_of_ble_eq_true rfl⟩ (gAft_r rfl rfl (h' := cTr f) (st' := [.int (f (a * 4 + (i + 1)))]) (pc' := 15) (cs' := 0) (ss' := 0) rfl rfl rfl rfl rfl ?_)
    refine gW_b D_Tr_mostOf 11 3 (pc' := 18) (l' := [(0, .ref 0), (1, .int (nI a)), (2, .int (nI (moc f a i))), (3, .int (nI (i + 1)))]) (st' := [.int (nI (moc f a i)), .int (nI a), .ref 0, .int (f (a * 4 + (i + 1)))]) (h' := cTr f) (P := True) rfl trivial ?_
    refine gW_callV (m_held f a (moc f a i) (by omega) (by omega)) lk_Tr_19 [0, 1] (gdec_at D_Tr_mostOf 14 rfl) (st := [.int (f (a * 4 + (i + 1)))]) rfl rfl ⟨rfl, rfl⟩ (Nat.le_of_ble_eq_true rfl) rfl (by decide) rfl (Nat.le_of_ble_eq_true rfl) ⟨Nat.le_of_ble_eq_true rfl, Nat.le_of_ble_eq_true rfl⟩ ⟨Nat.le_of_ble_eq_true rfl, Nat.le_of_ble_eq_true rfl⟩ (gAft_r rfl rfl (h' := cTr f) (st' := [.int (f (a * 4 + (moc f a i))), .int (f (a * 4 + (i + 1)))]) (pc' := 21) (cs' := 0) (ss' := 0) rfl rfl rfl rfl rfl ?_)
    refine gW_ic_le (gdec_at D_Tr_mostOf 15 rfl) (tgt := 26) rfl (fun c => ?_) (fun c => ?_)
    · skip
      refine gW_b D_Tr_mostOf 18 2 (pc' := 4) (l' := [(0, .ref 0), (1, .int (nI a)), (2, .int (nI (moc f a i))), (3, .int ((nI (i + 1)) + 1))]) (st' := []) (h' := cTr f) (P := True) rfl trivial ?_
      rw [show ((nI (i + 1)) + 1 : Int32) = nI ((i + 1) + 1) from (gadd (rfl : nI (i + 1) = nI (i + 1)) (gk 1))]
      rw [show moc f a i = moc f a (i + 1) from (if_pos c).symm]
      exact ih (i + 1) (by omega)
    · skip
      refine gW_b D_Tr_mostOf 16 4 (pc' := 4) (l' := [(0, .ref 0), (1, .int (nI a)), (2, .int (nI (i + 1))), (3, .int ((nI (i + 1)) + 1))]) (st' := []) (h' := cTr f) (P := True) rfl trivial ?_
      rw [show ((nI (i + 1)) + 1 : Int32) = nI ((i + 1) + 1) from (gadd (rfl : nI (i + 1) = nI (i + 1)) (gk 1))]
      rw [show (gW K_Tr_mostOf sc { frames := 1, locals := 23, cells := 0, slots := 0 } n0 E 0 0 4 [(0, .ref 0), (1, .int (nI a)), (2, .int (nI (i + 1))), (3, .int (nI (i + 1 + 1)))] [] (cTr f)) = (gW K_Tr_mostOf sc { frames := 1, locals := 23, cells := 0, slots := 0 } n0 E 0 0 4 [(0, .ref 0), (1, .int (nI a)), (2, .int (nI (moc f a (i + 1)))), (3, .int (nI (i + 1 + 1)))] [] (cTr f)) from by rw [show moc f a (i + 1) = i + 1 from if_neg c]]
      exact ih (i + 1) (by omega)
theorem m_mostOf (f : Nat → Int32) (a : Nat) (ha : a < 6) : gM K_Tr_mostOf { frames := 1, locals := 23, cells := 0, slots := 0 } [.ref 0, .int (nI a)] (cTr f) (gD (.inl (some (.int (nI (moc f a 3))))) (cTr f)) := by
  refine gM_of rfl rfl (Nat.le_of_ble_eq_true rfl) (fun sc => ?_)
  refine gW_b D_Tr_mostOf 0 4 (pc' := 4) (l' := [(0, .ref 0), (1, .int (nI a)), (2, .int 0), (3, .int 1)]) (st' := []) (h' := cTr f) (P := True) rfl trivial ?_
  refine l_mostOf f a ha ?_ 3 0 rfl
  refine gW_b D_Tr_mostOf 20 1 (pc' := 33) (l' := [(0, .ref 0), (1, .int (nI a)), (2, .int (nI (moc f a 3))), (3, .int (nI (3 + 1)))]) (st' := [.int (nI (moc f a 3))]) (h' := cTr f) (P := True) rfl trivial ?_
  exact gW_iret (gdec_at D_Tr_mostOf 21 rfl) rfl rfl (Nat.le_of_ble_eq_true rfl) ⟨rfl, rfl⟩ (Nat.le_of_ble_eq_true rfl) (Nat.le_of_ble_eq_true rfl)
def lec (f : Nat → Int32) : Nat → Nat → Nat
  | 0, i => i
  | n + 1, i => if tn f i = 0 then i else lec f n (i + 1)
/-- the lowest empty tray, 6 if there is none -/
def le6 (f : Nat → Int32) : Nat := lec f 6 0
def leV (e : Nat) : Int32 := if e < 6 then nI e else -1
theorem l_lowestEmpty (f : Nat → Int32) {sc : Nat × (Nat → Int32)} {n0 : Nat} (hn0 : n0 ≤ 2) : ∀ (n i : Nat) , i + n = 6 → gW K_Tr_lowestEmpty sc { frames := 1, locals := 23, cells := 0, slots := 0 } n0 (gD (.inl (some (.int (leV (lec f n i))))) (cTr f)) 0 0 2 [(0, .ref 0), (1, .int (nI i))] [] (cTr f) := by
  intro n
  induction n with
  | zero =>
    intro i  hi
    obtain rfl : 6 = i := by omega
    refine gW_b D_Tr_lowestEmpty 2 2 (pc' := 5) (l' := [(0, .ref 0), (1, .int (nI 6))]) (st' := [.int 6, .int (nI 6)]) (h' := cTr f) (P := True) rfl trivial ?_
    refine gW_ic_ge (gdec_at D_Tr_lowestEmpty 4 rfl) (tgt := 24) rfl (fun _ => ?_) (fun cq => absurd ((gle (gk 6) (rfl : nI 6 = nI 6) (by omega) (by omega)).mpr (by omega)) cq)
    refine gW_b D_Tr_lowestEmpty 13 1 (pc' := 25) (l' := [(0, .ref 0), (1, .int (nI 6))]) (st' := [.int (-1)]) (h' := cTr f) (P := True) rfl trivial ?_
    exact gW_iret (gdec_at D_Tr_lowestEmpty 14 rfl) rfl rfl hn0 ⟨rfl, rfl⟩ (Nat.le_of_ble_eq_true rfl) (Nat.le_of_ble_eq_true rfl)
  | succ n ih =>
    intro i  hi
    have hb2 := tn_le f i
    refine gW_b D_Tr_lowestEmpty 2 2 (pc' := 5) (l' := [(0, .ref 0), (1, .int (nI i))]) (st' := [.int 6, .int (nI i)]) (h' := cTr f) (P := True) rfl trivial ?_
    refine gW_ic_ge (gdec_at D_Tr_lowestEmpty 4 rfl) (tgt := 24) rfl (fun cq => absurd cq (mt (gle (gk 6) (rfl : nI i = nI i) (by omega) (by omega)).mp (by omega))) (fun _ => ?_)
    refine gW_b D_Tr_lowestEmpty 5 2 (pc' := 10) (l' := [(0, .ref 0), (1, .int (nI i))]) (st' := [.int (nI i), .ref 0]) (h' := cTr f) (P := True) rfl trivial ?_
    refine gW_callV (m_tonesIn f i (by omega)) lk_Tr_32 [0, 1] (gdec_at D_Tr_lowestEmpty 7 rfl) (st := []) rfl rfl ⟨rfl, rfl⟩ (Nat.le_of_ble_eq_true rfl) rfl (by decide) rfl (Nat.le_of_ble_eq_true rfl) ⟨Nat.le_of_ble_eq_true rfl, Nat.le_of_ble_eq_true rfl⟩ ⟨Nat.le_of_ble_eq_true rfl, Nat.le_of_ble_eq_true rfl⟩ (gAft_r rfl rfl (h' := cTr f) (st' := [.int (nI (tn f i))]) (pc' := 13) (cs' := 0) (ss' := 0) rfl rfl rfl rfl rfl ?_)
    refine gW_if_ne (gdec_at D_Tr_lowestEmpty 8 rfl) (tgt := 18) rfl (fun c => ?_) (fun c => ?_)
    · have c := mt (geq (rfl : nI (tn f i) = nI (tn f i)) (gk 0) (by omega) (by omega)).mpr c
      refine gW_b D_Tr_lowestEmpty 11 2 (pc' := 2) (l' := [(0, .ref 0), (1, .int ((nI i) + 1))]) (st' := []) (h' := cTr f) (P := True) rfl trivial ?_
      rw [show ((nI i) + 1 : Int32) = nI (i + 1) from (gadd (rfl : nI i = nI i) (gk 1))]
      rw [show lec f (n + 1) i = lec f n (i + 1) from if_neg c]
      exact ih (i + 1) (by omega)
    · have c := (geq (rfl : nI (tn f i) = nI (tn f i)) (gk 0) (by omega) (by omega)).mp c
      refine gW_b D_Tr_lowestEmpty 9 1 (pc' := 17) (l' := [(0, .ref 0), (1, .int (nI i))]) (st' := [.int (nI i)]) (h' := cTr f) (P := True) rfl trivial ?_
      rw [show lec f (n + 1) i = i from if_pos c, show leV i = nI i from if_pos (by omega)]
      exact gW_iret (gdec_at D_Tr_lowestEmpty 10 rfl) rfl rfl hn0 ⟨rfl, rfl⟩ (Nat.le_of_ble_eq_true rfl) (Nat.le_of_ble_eq_true rfl)
theorem m_lowestEmpty (f : Nat → Int32) : gM K_Tr_lowestEmpty { frames := 1, locals := 23, cells := 0, slots := 0 } [.ref 0] (cTr f) (gD (.inl (some (.int (leV (le6 f))))) (cTr f)) := by
  refine gM_of rfl rfl (Nat.le_of_ble_eq_true rfl) (fun sc => ?_)
  refine gW_b D_Tr_lowestEmpty 0 2 (pc' := 2) (l' := [(0, .ref 0), (1, .int 0)]) (st' := []) (h' := cTr f) (P := True) rfl trivial ?_
  exact l_lowestEmpty f (Nat.le_refl _) 6 0 rfl
/-- one tone sorted out of tray a: not the one that is kept, and only if a tray is empty -/
def soS (a k : Nat) (r : Int32) (f : Nat → Int32) (t : Nat) : Nat → Int32 := if t = k then f else if leV (le6 f) = -1 then f else pourF f a (le6 f) t (pmI f a t r)
def soR (a k : Nat) (r : Int32) (f : Nat → Int32) : Nat → Nat → Int32
  | 0 => f
  | t + 1 => soS a k r (soR a k r f t) t
theorem leV_lt {f : Nat → Int32} (h : ¬ leV (le6 f) = -1) : le6 f < 6 := by
  by_cases h1 : le6 f < 6
  · exact h1
  · exact absurd (if_neg h1) h
theorem l_sortOut (f : Nat → Int32) (a k : Nat) (r : Int32) (ha : a < 6) (hk : k ≤ 3) {sc : Nat × (Nat → Int32)} {n0 : Nat} {E : gO → gH → Prop} (kk : gW K_Tr_sortOut sc { frames := 2, locals := 48, cells := 0, slots := 0 } n0 E 0 0 50 [(0, .ref 0), (1, .int (nI a)), (2, .int r), (3, .int (nI k)), (4, .int (nI 4))] [] (cTr (soR a k r f 4))) : ∀ (n i : Nat), i + n = 4 → gW K_Tr_sortOut sc { frames := 2, locals := 48, cells := 0, slots := 0 } n0 E 0 0 9 [(0, .ref 0), (1, .int (nI a)), (2, .int r), (3, .int (nI k)), (4, .int (nI i))] [] (cTr (soR a k r f i)) := by
  intro n
  induction n with
  | zero =>
    intro i hi
    obtain rfl : 4 = i := by omega
    refine gW_b D_Tr_sortOut 6 2 (pc' := 12) (l' := [(0, .ref 0), (1, .int (nI a)), (2, .int r), (3, .int (nI k)), (4, .int (nI 4))]) (st' := [.int 4, .int (nI 4)]) (h' := cTr (soR a k r f 4)) (P := True) rfl trivial ?_
    refine gW_ic_ge (gdec_at D_Tr_sortOut 8 rfl) (tgt := 50) rfl (fun _ => ?_) (fun cq => absurd ((gle (gk 4) (rfl : nI 4 = nI 4) (by omega) (by omega)).mpr (by omega)) cq)
    exact kk
  | succ n ih =>
    intro i hi
    refine gW_b D_Tr_sortOut 6 2 (pc' := 12) (l' := [(0, .ref 0), (1, .int (nI a)), (2, .int r), (3, .int (nI k)), (4, .int (nI i))]) (st' := [.int 4, .int (nI i)]) (h' := cTr (soR a k r f i)) (P := True) rfl trivial ?_
    refine gW_ic_ge (gdec_at D_Tr_sortOut 8 rfl) (tgt := 50) rfl (fun cq => absurd cq (mt (gle (gk 4) (rfl : nI i = nI i) (by omega) (by omega)).mp (by omega))) (fun _ => ?_)
    refine gW_b D_Tr_sortOut 9 1 (pc' := 16) (l' := [(0, .ref 0), (1, .int (nI a)), (2, .int r), (3, .int (nI k)), (4, .int (nI i))]) (st' := [.ref 0]) (h' := cTr (soR a k r f i)) (P := True) rfl trivial ?_
    refine gW_callV (m_lowestEmpty (soR a k r f i)) lk_Tr_45 [0, 1] (gdec_at D_Tr_sortOut 10 rfl) (st := []) rfl rfl ⟨rfl, rfl⟩ (Nat.le_of_ble_eq_true rfl) rfl (by decide) rfl (Nat.le_of_ble_eq_true rfl) ⟨Nat.le_of_ble_eq_true rfl, Nat.le_of_ble_eq_true rfl⟩ ⟨Nat.le_of_ble_eq_true rfl, Nat.le_of_ble_eq_true rfl⟩ (gAft_r rfl rfl (h' := cTr (soR a k r f i)) (st' := [.int (leV (le6 (soR a k r f i)))]) (pc' := 19) (cs' := 0) (ss' := 0) rfl rfl rfl rfl rfl ?_)
    refine gW_b D_Tr_sortOut 11 3 (pc' := 24) (l' := [(0, .ref 0), (1, .int (nI a)), (2, .int r), (3, .int (nI k)), (4, .int (nI i)), (5, .int (leV (le6 (soR a k r f i))))]) (st' := [.int (nI k), .int (nI i)]) (h' := cTr (soR a k r f i)) (P := True) rfl trivial ?_
    refine gW_ic_eq (gdec_at D_Tr_sortOut 14 rfl) (tgt := 44) rfl (fun c => ?_) (fun c => ?_)
    · have c := (geq (rfl : nI i = nI i) (rfl : nI k = nI k) (by omega) (by omega)).mp c
      refine gW_l [0, 1, 2, 3, 4] (l' := [(0, .ref 0), (1, .int (nI a)), (2, .int r), (3, .int (nI k)), (4, .int (nI i))]) rfl ?_
      refine gW_b D_Tr_sortOut 25 2 (pc' := 9) (l' := [(0, .ref 0), (1, .int (nI a)), (2, .int r), (3, .int (nI k)), (4, .int ((nI i) + 1))]) (st' := []) (h' := cTr (soR a k r f i)) (P := True) rfl trivial ?_
      rw [show ((nI i) + 1 : Int32) = nI (i + 1) from (gadd (rfl : nI i = nI i) (gk 1))]
      rw [show soR a k r f i = soR a k r f (i + 1) from (if_pos c).symm]
      exact ih (i + 1) (by omega)
    · have c := mt (geq (rfl : nI i = nI i) (rfl : nI k = nI k) (by omega) (by omega)).mpr c
      refine gW_b D_Tr_sortOut 15 2 (pc' := 30) (l' := [(0, .ref 0), (1, .int (nI a)), (2, .int r), (3, .int (nI k)), (4, .int (nI i)), (5, .int (leV (le6 (soR a k r f i))))]) (st' := [.int (-1), .int (leV (le6 (soR a k r f i)))]) (h' := cTr (soR a k r f i)) (P := True) rfl trivial ?_
      refine gW_ic_eq (gdec_at D_Tr_sortOut 17 rfl) (tgt := 44) rfl (fun d => ?_) (fun d => ?_)
      · skip
        refine gW_l [0, 1, 2, 3, 4] (l' := [(0, .ref 0), (1, .int (nI a)), (2, .int r), (3, .int (nI k)), (4, .int (nI i))]) rfl ?_
        refine gW_b D_Tr_sortOut 25 2 (pc' := 9) (l' := [(0, .ref 0), (1, .int (nI a)), (2, .int r), (3, .int (nI k)), (4, .int ((nI i) + 1))]) (st' := []) (h' := cTr (soR a k r f i)) (P := True) rfl trivial ?_
        rw [show ((nI i) + 1 : Int32) = nI (i + 1) from (gadd (rfl : nI i = nI i) (gk 1))]
        rw [show soR a k r f i = soR a k r f (i + 1) from ((if_neg c).trans (if_pos d)).symm]
        exact ih (i + 1) (by omega)
      · skip
        have he := leV_lt d
        rw [show (leV (le6 (soR a k r f i)) : Int32) = nI (le6 (soR a k r f i)) from if_pos he]
        refine gW_b D_Tr_sortOut 18 5 (pc' := 40) (l' := [(0, .ref 0), (1, .int (nI a)), (2, .int r), (3, .int (nI k)), (4, .int (nI i)), (5, .int (nI (le6 (soR a k r f i))))]) (st' := [.int r, .int (nI i), .int (nI (le6 (soR a k r f i))), .int (nI a), .ref 0]) (h' := cTr (soR a k r f i)) (P := True) rfl trivial ?_
        refine gW_callV (m_pour (soR a k r f i) a (le6 (soR a k r f i)) i r (by omega) (by omega) (by omega)) lk_Tr_49 [0, 1] (gdec_at D_Tr_sortOut 23 rfl) (st := []) rfl rfl ⟨rfl, rfl⟩ (Nat.le_of_ble_eq_true rfl) rfl (by decide) rfl (Nat.le_of_ble_eq_true rfl) ⟨Nat.le_of_ble_eq_true rfl, Nat.le_of_ble_eq_true rfl⟩ ⟨Nat.le_of_ble_eq_true rfl, Nat.le_of_ble_eq_true rfl⟩ (gAft_r rfl rfl (h' := cTr (pourF (soR a k r f i) a (le6 (soR a k r f i)) i (pmI (soR a k r f i) a i r))) (st' := [.int (pmI (soR a k r f i) a i r)]) (pc' := 43) (cs' := 0) (ss' := 0) rfl rfl rfl rfl rfl ?_)
        refine gW_b D_Tr_sortOut 24 1 (pc' := 44) (l' := [(0, .ref 0), (1, .int (nI a)), (2, .int r), (3, .int (nI k)), (4, .int (nI i)), (5, .int (nI (le6 (soR a k r f i))))]) (st' := []) (h' := cTr (pourF (soR a k r f i) a (le6 (soR a k r f i)) i (pmI (soR a k r f i) a i r))) (P := True) rfl trivial ?_
        refine gW_l [0, 1, 2, 3, 4] (l' := [(0, .ref 0), (1, .int (nI a)), (2, .int r), (3, .int (nI k)), (4, .int (nI i))]) rfl ?_
        refine gW_b D_Tr_sortOut 25 2 (pc' := 9) (l' := [(0, .ref 0), (1, .int (nI a)), (2, .int r), (3, .int (nI k)), (4, .int ((nI i) + 1))]) (st' := []) (h' := cTr (pourF (soR a k r f i) a (le6 (soR a k r f i)) i (pmI (soR a k r f i) a i r))) (P := True) rfl trivial ?_
        rw [show ((nI i) + 1 : Int32) = nI (i + 1) from (gadd (rfl : nI i = nI i) (gk 1))]
        rw [show pourF (soR a k r f i) a (le6 (soR a k r f i)) i (pmI (soR a k r f i) a i r) = soR a k r f (i + 1) from ((if_neg c).trans (if_neg d)).symm]
        exact ih (i + 1) (by omega)
theorem m_sortOut (f : Nat → Int32) (a : Nat) (r : Int32) (ha : a < 6) : gM K_Tr_sortOut { frames := 2, locals := 48, cells := 0, slots := 0 } [.ref 0, .int (nI a), .int r] (cTr f) (gD (.inl none) (cTr (soR a (moc f a 3) r f 4))) := by
  refine gM_of rfl rfl (Nat.le_of_ble_eq_true rfl) (fun sc => ?_)
  refine gW_b D_Tr_sortOut 0 2 (pc' := 2) (l' := [(0, .ref 0), (1, .int (nI a)), (2, .int r)]) (st' := [.int (nI a), .ref 0]) (h' := cTr f) (P := True) rfl trivial ?_
  refine gW_callV (m_mostOf f a (by omega)) lk_Tr_42 [0, 1] (gdec_at D_Tr_sortOut 2 rfl) (st := []) rfl rfl ⟨rfl, rfl⟩ (Nat.le_of_ble_eq_true rfl) rfl (by decide) rfl (Nat.le_of_ble_eq_true rfl) ⟨Nat.le_of_ble_eq_true rfl, Nat.le_of_ble_eq_true rfl⟩ ⟨Nat.le_of_ble_eq_true rfl, Nat.le_of_ble_eq_true rfl⟩ (gAft_r rfl rfl (h' := cTr f) (st' := [.int (nI (moc f a 3))]) (pc' := 5) (cs' := 0) (ss' := 0) rfl rfl rfl rfl rfl ?_)
  refine gW_b D_Tr_sortOut 3 3 (pc' := 9) (l' := [(0, .ref 0), (1, .int (nI a)), (2, .int r), (3, .int (nI (moc f a 3))), (4, .int 0)]) (st' := []) (h' := cTr f) (P := True) rfl trivial ?_
  refine l_sortOut f a (moc f a 3) r ha (moc_le f a 3) ?_ 4 0 rfl
  exact gW_vret (gdec_at D_Tr_sortOut 27 rfl) rfl (Nat.le_of_ble_eq_true rfl) ⟨rfl, rfl⟩ (Nat.le_of_ble_eq_true rfl) (Nat.le_of_ble_eq_true rfl)
def tkI (f : Nat → Int32) (i t : Nat) (w g : Int32) : Int32 := if f (i * 4 + t) < w - g then f (i * 4 + t) else w - g
/-- takes tone t out of the trays i and on, w less g at most: the trays, and how many -/
def tkR (t : Nat) (w : Int32) : Nat → Nat → (Nat → Int32) → Int32 → (Nat → Int32) × Int32
  | 0, _, f, g => (f, g)
  | n + 1, i, f, g => if w ≤ g then (f, g) else if f (i * 4 + t) ≤ 0 then tkR t w n (i + 1) f g else if tn f i = 1 then tkR t w n (i + 1) (upd f (i * 4 + t) (f (i * 4 + t) + -(tkI f i t w g))) (g + tkI f i t w g) else tkR t w n (i + 1) f g
theorem l_takeReady (t : Nat) (w : Int32) (ht : t < 4) {sc : Nat × (Nat → Int32)} {n0 : Nat} (hn0 : n0 ≤ 2) : ∀ (n i : Nat) (f : Nat → Int32) (g : Int32), i + n = 6 → gW K_Tr_takeReady sc { frames := 1, locals := 23, cells := 0, slots := 0 } n0 (gD (.inl (some (.int (tkR t w n i f g).2))) (cTr (tkR t w n i f g).1)) 0 0 5 [(0, .ref 0), (1, .int (nI t)), (2, .int w), (3, .int g), (4, .int (nI i))] [] (cTr f) := by
  intro n
  induction n with
  | zero =>
    intro i f g hi
    obtain rfl : 6 = i := by omega
    refine gW_b D_Tr_takeReady 4 2 (pc' := 9) (l' := [(0, .ref 0), (1, .int (nI t)), (2, .int w), (3, .int g), (4, .int (nI 6))]) (st' := [.int 6, .int (nI 6)]) (h' := cTr f) (P := True) rfl trivial ?_
    refine gW_ic_ge (gdec_at D_Tr_takeReady 6 rfl) (tgt := 73) rfl (fun _ => ?_) (fun cq => absurd ((gle (gk 6) (rfl : nI 6 = nI 6) (by omega) (by omega)).mpr (by omega)) cq)
    refine gW_b D_Tr_takeReady 41 1 (pc' := 74) (l' := [(0, .ref 0), (1, .int (nI t)), (2, .int w), (3, .int g), (4, .int (nI 6))]) (st' := [.int g]) (h' := cTr f) (P := True) rfl trivial ?_
    exact gW_iret (gdec_at D_Tr_takeReady 42 rfl) rfl rfl hn0 ⟨rfl, rfl⟩ (Nat.le_of_ble_eq_true rfl) (Nat.le_of_ble_eq_true rfl)
  | succ n ih =>
    intro i f g hi
    have hb2 := tn_le f i
    refine gW_b D_Tr_takeReady 4 2 (pc' := 9) (l' := [(0, .ref 0), (1, .int (nI t)), (2, .int w), (3, .int g), (4, .int (nI i))]) (st' := [.int 6, .int (nI i)]) (h' := cTr f) (P := True) rfl trivial ?_
    refine gW_ic_ge (gdec_at D_Tr_takeReady 6 rfl) (tgt := 73) rfl (fun cq => absurd cq (mt (gle (gk 6) (rfl : nI i = nI i) (by omega) (by omega)).mp (by omega))) (fun _ => ?_)
    refine gW_b D_Tr_takeReady 7 2 (pc' := 14) (l' := [(0, .ref 0), (1, .int (nI t)), (2, .int w), (3, .int g), (4, .int (nI i))]) (st' := [.int w, .int g]) (h' := cTr f) (P := True) rfl trivial ?_
    refine gW_ic_ge (gdec_at D_Tr_takeReady 9 rfl) (tgt := 73) rfl (fun c => ?_) (fun c => ?_)
    · skip
      refine gW_b D_Tr_takeReady 41 1 (pc' := 74) (l' := [(0, .ref 0), (1, .int (nI t)), (2, .int w), (3, .int g), (4, .int (nI i))]) (st' := [.int g]) (h' := cTr f) (P := True) rfl trivial ?_
      rw [show tkR t w (n + 1) i f g = (f, g) from if_pos c]
      exact gW_iret (gdec_at D_Tr_takeReady 42 rfl) rfl rfl hn0 ⟨rfl, rfl⟩ (Nat.le_of_ble_eq_true rfl) (Nat.le_of_ble_eq_true rfl)
    · skip
      refine gW_b D_Tr_takeReady 10 3 (pc' := 21) (l' := [(0, .ref 0), (1, .int (nI t)), (2, .int w), (3, .int g), (4, .int (nI i))]) (st' := [.int (nI t), .int (nI i), .ref 0]) (h' := cTr f) (P := True) rfl trivial ?_
      refine gW_callV (m_held f i t (by omega) (by omega)) lk_Tr_19 [0, 1] (gdec_at D_Tr_takeReady 13 rfl) (st := []) rfl rfl ⟨rfl, rfl⟩ (Nat.le_of_ble_eq_true rfl) rfl (by decide) rfl (Nat.le_of_ble_eq_true rfl) ⟨Nat.le_of_ble_eq_true rfl, Nat.le_of_ble_eq_true rfl⟩ ⟨Nat.le_of_ble_eq_true rfl, Nat.le_of_ble_eq_true rfl⟩ (gAft_r rfl rfl (h' := cTr f) (st' := [.int (f (i * 4 + t))]) (pc' := 24) (cs' := 0) (ss' := 0) rfl rfl rfl rfl rfl ?_)
      refine gW_if_le (gdec_at D_Tr_takeReady 14 rfl) (tgt := 67) rfl (fun d => ?_) (fun d => ?_)
      · skip
        refine gW_l [0, 1, 2, 3, 4] (l' := [(0, .ref 0), (1, .int (nI t)), (2, .int w), (3, .int g), (4, .int (nI i))]) rfl ?_
        refine gW_b D_Tr_takeReady 39 2 (pc' := 5) (l' := [(0, .ref 0), (1, .int (nI t)), (2, .int w), (3, .int g), (4, .int ((nI i) + 1))]) (st' := []) (h' := cTr f) (P := True) rfl trivial ?_
        rw [show ((nI i) + 1 : Int32) = nI (i + 1) from (gadd (rfl : nI i = nI i) (gk 1))]
        rw [show tkR t w (n + 1) i f g = tkR t w n (i + 1) f g from (if_neg c).trans (if_pos d)]
        exact ih (i + 1) _ _ (by omega)
      · skip
        refine gW_b D_Tr_takeReady 15 2 (pc' := 30) (l' := [(0, .ref 0), (1, .int (nI t)), (2, .int w), (3, .int g), (4, .int (nI i))]) (st' := [.int (nI i), .ref 0]) (h' := cTr f) (P := True) rfl trivial ?_
        refine gW_callV (m_tonesIn f i (by omega)) lk_Tr_32 [0, 1] (gdec_at D_Tr_takeReady 17 rfl) (st := []) rfl rfl ⟨rfl, rfl⟩ (Nat.le_of_ble_eq_true rfl) rfl (by decide) rfl (Nat.le_of_ble_eq_true rfl) ⟨Nat.le_of_ble_eq_true rfl, Nat.le_of_ble_eq_true rfl⟩ ⟨Nat.le_of_ble_eq_true rfl, Nat.le_of_ble_eq_true rfl⟩ (gAft_r rfl rfl (h' := cTr f) (st' := [.int (nI (tn f i))]) (pc' := 33) (cs' := 0) (ss' := 0) rfl rfl rfl rfl rfl ?_)
        refine gW_b D_Tr_takeReady 18 1 (pc' := 34) (l' := [(0, .ref 0), (1, .int (nI t)), (2, .int w), (3, .int g), (4, .int (nI i))]) (st' := [.int 1, .int (nI (tn f i))]) (h' := cTr f) (P := True) rfl trivial ?_
        refine gW_ic_ne (gdec_at D_Tr_takeReady 19 rfl) (tgt := 67) rfl (fun e => ?_) (fun e => ?_)
        · have e := mt (geq (rfl : nI (tn f i) = nI (tn f i)) (gk 1) (by omega) (by omega)).mpr e
          refine gW_l [0, 1, 2, 3, 4] (l' := [(0, .ref 0), (1, .int (nI t)), (2, .int w), (3, .int g), (4, .int (nI i))]) rfl ?_
          refine gW_b D_Tr_takeReady 39 2 (pc' := 5) (l' := [(0, .ref 0), (1, .int (nI t)), (2, .int w), (3, .int g), (4, .int ((nI i) + 1))]) (st' := []) (h' := cTr f) (P := True) rfl trivial ?_
          rw [show ((nI i) + 1 : Int32) = nI (i + 1) from (gadd (rfl : nI i = nI i) (gk 1))]
          rw [show tkR t w (n + 1) i f g = tkR t w n (i + 1) f g from (if_neg c).trans ((if_neg d).trans (if_neg e))]
          exact ih (i + 1) _ _ (by omega)
        · have e := (geq (rfl : nI (tn f i) = nI (tn f i)) (gk 1) (by omega) (by omega)).mp e
          refine gW_b D_Tr_takeReady 20 6 (pc' := 44) (l' := [(0, .ref 0), (1, .int (nI t)), (2, .int w), (3, .int g), (4, .int (nI i))]) (st' := [.int (nI t), .int (nI i), .ref 0, .int (w - g)]) (h' := cTr f) (P := True) rfl trivial ?_
          refine gW_callV (m_held f i t (by omega) (by omega)) lk_Tr_19 [0, 1] (gdec_at D_Tr_takeReady 26 rfl) (st := [.int (w - g)]) rfl rfl ⟨rfl, rfl⟩ (Nat.le_of_ble_eq_true rfl) rfl (by decide) rfl (Nat.le_of_ble_eq_true rfl) ⟨Nat.le_of_ble_eq_true rfl, Nat.le_of_ble_eq_true rfl⟩ ⟨Nat.le_of_ble_eq_true rfl, Nat.le_of_ble_eq_true rfl⟩ (gAft_r rfl rfl (h' := cTr f) (st' := [.int (f (i * 4 + t)), .int (w - g)]) (pc' := 47) (cs' := 0) (ss' := 0) rfl rfl rfl rfl rfl ?_)
          refine gW_min (gmem 380 (by decide +kernel)) (gdec_at D_Tr_takeReady 27 rfl) (Nat.le_of_ble_eq_true rfl) (Nat.le_of_ble_eq_true rfl) (Nat.le_of_ble_eq_true rfl) (Nat.le_of_ble_eq_true rfl) ?_
          rw [show (if f (i * 4 + t) < w - g then f (i * 4 + t) else w - g : Int32) = tkI f i t w g from rfl]
          refine gW_b D_Tr_takeReady 28 6 (pc' := 59) (l' := [(0, .ref 0), (1, .int (nI t)), (2, .int w), (3, .int g), (4, .int (nI i)), (5, .int (tkI f i t w g))]) (st' := [.int (-(tkI f i t w g)), .int (nI t), .int (nI i), .ref 0]) (h' := cTr f) (P := True) rfl trivial ?_
          refine gW_callV (m_change f i t (-(tkI f i t w g)) (by omega) (by omega)) lk_Tr_38 [0, 1] (gdec_at D_Tr_takeReady 34 rfl) (st := []) rfl rfl ⟨rfl, rfl⟩ (Nat.le_of_ble_eq_true rfl) rfl (by decide) rfl (Nat.le_of_ble_eq_true rfl) ⟨Nat.le_of_ble_eq_true rfl, Nat.le_of_ble_eq_true rfl⟩ ⟨Nat.le_of_ble_eq_true rfl, Nat.le_of_ble_eq_true rfl⟩ (gAft_r rfl rfl (h' := cTr (upd f (i * 4 + t) ((f (i * 4 + t)) + (-(tkI f i t w g))))) (st' := []) (pc' := 62) (cs' := 0) (ss' := 0) rfl rfl rfl rfl rfl ?_)
          refine gW_b D_Tr_takeReady 35 4 (pc' := 67) (l' := [(0, .ref 0), (1, .int (nI t)), (2, .int w), (3, .int (g + (tkI f i t w g))), (4, .int (nI i)), (5, .int (tkI f i t w g))]) (st' := []) (h' := cTr (upd f (i * 4 + t) ((f (i * 4 + t)) + (-(tkI f i t w g))))) (P := True) rfl trivial ?_
          refine gW_l [0, 1, 2, 3, 4] (l' := [(0, .ref 0), (1, .int (nI t)), (2, .int w), (3, .int (g + (tkI f i t w g))), (4, .int (nI i))]) rfl ?_
          refine gW_b D_Tr_takeReady 39 2 (pc' := 5) (l' := [(0, .ref 0), (1, .int (nI t)), (2, .int w), (3, .int (g + (tkI f i t w g))), (4, .int ((nI i) + 1))]) (st' := []) (h' := cTr (upd f (i * 4 + t) ((f (i * 4 + t)) + (-(tkI f i t w g))))) (P := True) rfl trivial ?_
          rw [show ((nI i) + 1 : Int32) = nI (i + 1) from (gadd (rfl : nI i = nI i) (gk 1))]
          rw [show tkR t w (n + 1) i f g = tkR t w n (i + 1) (upd f (i * 4 + t) ((f (i * 4 + t)) + (-(tkI f i t w g)))) (g + tkI f i t w g) from (if_neg c).trans ((if_neg d).trans (if_pos e))]
          exact ih (i + 1) _ _ (by omega)
theorem m_takeReady (f : Nat → Int32) (t : Nat) (w : Int32) (ht : t < 4) : gM K_Tr_takeReady { frames := 1, locals := 23, cells := 0, slots := 0 } [.ref 0, .int (nI t), .int w] (cTr f) (gD (.inl (some (.int ((tkR t w 6 0 f 0).2)))) (cTr ((tkR t w 6 0 f 0).1))) := by
  refine gM_of rfl rfl (Nat.le_of_ble_eq_true rfl) (fun sc => ?_)
  refine gW_b D_Tr_takeReady 0 4 (pc' := 5) (l' := [(0, .ref 0), (1, .int (nI t)), (2, .int w), (3, .int 0), (4, .int 0)]) (st' := []) (h' := cTr f) (P := True) rfl trivial ?_
  exact l_takeReady t w ht (Nat.le_refl _) 6 0 f 0 rfl

theorem m_TrcopyFrom (f g : Nat → Int32) : gM K_Tr_copyFrom { frames := 2, locals := 61, cells := 0, slots := 0 } [.ref 0, .ref 2] ([cO 0 [.ref 1], cI 24 g, cO 0 [.ref 3], cI 24 f]) (gD (.inl none) ([cO 0 [.ref 1], cI 24 f, cO 0 [.ref 3], cI 24 f])) := by
  refine gM_of rfl rfl (Nat.le_of_ble_eq_true rfl) (fun sc => ?_)
  refine gW_b D_Tr_copyFrom 0 4 (pc' := 8) (l' := [(0, .ref 0), (1, .ref 2)]) (st' := [.ref 1, .ref 3]) (h' := [cO 0 [.ref 1], cI 24 g, cO 0 [.ref 3], cI 24 f]) (P := True) rfl trivial ?_
  refine gW_callS (m_copyRow 24 f g (by omega)) lk_Tr_15 [3, 1] (gdec_at D_Tr_copyFrom 4 rfl) (st := []) rfl rfl ⟨rfl, rfl⟩ (Nat.le_of_ble_eq_true rfl) (Nat.le_of_ble_eq_true rfl) ⟨Nat.le_of_ble_eq_true rfl, Nat.le_of_ble_eq_true rfl⟩ ⟨Nat.le_of_ble_eq_true rfl, Nat.le_of_ble_eq_true rfl⟩ (gAft_r rfl rfl (h' := [cO 0 [.ref 1], cI 24 f, cO 0 [.ref 3], cI 24 f]) (st' := []) (pc' := 11) (cs' := 0) (ss' := 0) rfl rfl rfl rfl rfl ?_)
  exact gW_vret (gdec_at D_Tr_copyFrom 5 rfl) rfl (Nat.le_of_ble_eq_true rfl) ⟨rfl, rfl⟩ (Nat.le_of_ble_eq_true rfl) (Nat.le_of_ble_eq_true rfl)
