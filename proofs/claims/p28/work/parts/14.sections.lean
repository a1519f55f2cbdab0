/-! GoldSheets$Sections. Printed by wip/whole/meths2.py -/
abbrev cSe (g : Nat → Int32) (sz : Nat) (c : Int32) : gH := [cO 1 [.ref 1, .int (nI sz), .int c], cI 50 g]

theorem m_valueOf (g : Nat → Int32) (sz : Nat) (c : Int32) (p k : Nat) (hs : sz ≤ 10) (hp : p < sz) (hk : k < 5) : gM K_Se_valueOf { frames := 0, locals := 0, cells := 0, slots := 0 } [.ref 0, .int (nI p), .int (nI k)] (cSe g sz c) (gD (.inl (some (.int (g (p * 5 + k))))) (cSe g sz c)) := by
  refine gM_of rfl rfl (Nat.le_of_ble_eq_true rfl) (fun sc => ?_)
  refine gW_b D_Se_valueOf 0 1 (pc' := 1) (l' := [(0, .ref 0), (1, .int (nI p)), (2, .int (nI k))]) (st' := [.int (nI p)]) (h' := cSe g sz c) (P := True) rfl trivial ?_
  refine gW_if_lt (gdec_at D_Se_valueOf 1 rfl) (tgt := 25) rfl (fun cq => absurd cq (nI_pos (n := p) (by omega))) (fun _ => ?_)
  refine gW_b D_Se_valueOf 2 3 (pc' := 9) (l' := [(0, .ref 0), (1, .int (nI p)), (2, .int (nI k))]) (st' := [.int (nI sz), .int (nI p)]) (h' := cSe g sz c) (P := True) rfl trivial ?_
  refine gW_ic_ge (gdec_at D_Se_valueOf 5 rfl) (tgt := 25) rfl (fun cq => absurd cq (mt (gle (rfl : nI sz = nI sz) (rfl : nI p = nI p) (by omega) (by omega)).mp (by omega))) (fun _ => ?_)
  refine gW_b D_Se_valueOf 6 1 (pc' := 13) (l' := [(0, .ref 0), (1, .int (nI p)), (2, .int (nI k))]) (st' := [.int (nI k)]) (h' := cSe g sz c) (P := True) rfl trivial ?_
  refine gW_if_lt (gdec_at D_Se_valueOf 7 rfl) (tgt := 25) rfl (fun cq => absurd cq (nI_pos (n := k) (by omega))) (fun _ => ?_)
  refine gW_b D_Se_valueOf 8 2 (pc' := 18) (l' := [(0, .ref 0), (1, .int (nI p)), (2, .int (nI k))]) (st' := [.int 5, .int (nI k)]) (h' := cSe g sz c) (P := True) rfl trivial ?_
  refine gW_ic_ge (gdec_at D_Se_valueOf 10 rfl) (tgt := 25) rfl (fun cq => absurd cq (mt (gle (gk 5) (rfl : nI k = nI k) (by omega) (by omega)).mp (by omega))) (fun _ => ?_)
  refine gW_b D_Se_valueOf 11 2 (pc' := 26) (l' := [(0, .ref 0), (1, .int (nI p)), (2, .int (nI k))]) (st' := [.int 1]) (h' := cSe g sz c) (P := True) rfl trivial ?_
  refine gW_b D_Se_valueOf 14 2 (pc' := 28) (l' := [(0, .ref 0), (1, .int (nI p)), (2, .int (nI k)), (3, .int 1)]) (st' := [.int 1]) (h' := cSe g sz c) (P := True) rfl trivial ?_
  refine gW_if_eq (gdec_at D_Se_valueOf 16 rfl) (tgt := 44) rfl (fun cq => absurd cq (by decide)) (fun _ => ?_)
  refine gW_b D_Se_valueOf 17 9 (pc' := 45) (l' := [(0, .ref 0), (1, .int (nI p)), (2, .int (nI k)), (3, .int 1)]) (st' := [.int (g ((((nI p) * 5) + (nI k)).toNatClampNeg))]) (h' := cSe g sz c) (P := vp_in (((nI p) * 5) + (nI k)) 50 ∧ True) rfl ⟨(gvin (gadd (gmul (rfl : nI p = nI p) (gk 5)) (rfl : nI k = nI k)) (by omega) (by omega)), trivial⟩ ?_
  rw [show (((nI p) * 5) + (nI k)).toNatClampNeg = ((p * 5) + k) from gclp (gadd (gmul (rfl : nI p = nI p) (gk 5)) (rfl : nI k = nI k)) (by omega)]
  exact gW_iret (gdec_at D_Se_valueOf 27 rfl) rfl rfl (Nat.le_of_ble_eq_true rfl) ⟨rfl, rfl⟩ (Nat.le_of_ble_eq_true rfl) (Nat.le_of_ble_eq_true rfl)

theorem m_put (g : Nat → Int32) (sz : Nat) (c : Int32) (p k : Nat) (v : Int32) (hs : sz ≤ 10) (hp : p < sz) (hk : k < 5) : gM K_Se_put { frames := 0, locals := 0, cells := 0, slots := 0 } [.ref 0, .int (nI p), .int (nI k), .int v] (cSe g sz c) (gD (.inl none) (cSe (upd g (p * 5 + k) v) sz c)) := by
  refine gM_of rfl rfl (Nat.le_of_ble_eq_true rfl) (fun sc => ?_)
  refine gW_b D_Se_put 0 1 (pc' := 1) (l' := [(0, .ref 0), (1, .int (nI p)), (2, .int (nI k)), (3, .int v)]) (st' := [.int (nI p)]) (h' := cSe g sz c) (P := True) rfl trivial ?_
  refine gW_if_lt (gdec_at D_Se_put 1 rfl) (tgt := 32) rfl (fun cq => absurd cq (nI_pos (n := p) (by omega))) (fun _ => ?_)
  refine gW_b D_Se_put 2 3 (pc' := 9) (l' := [(0, .ref 0), (1, .int (nI p)), (2, .int (nI k)), (3, .int v)]) (st' := [.int (nI sz), .int (nI p)]) (h' := cSe g sz c) (P := True) rfl trivial ?_
  refine gW_ic_ge (gdec_at D_Se_put 5 rfl) (tgt := 32) rfl (fun cq => absurd cq (mt (gle (rfl : nI sz = nI sz) (rfl : nI p = nI p) (by omega) (by omega)).mp (by omega))) (fun _ => ?_)
  refine gW_b D_Se_put 6 1 (pc' := 13) (l' := [(0, .ref 0), (1, .int (nI p)), (2, .int (nI k)), (3, .int v)]) (st' := [.int (nI k)]) (h' := cSe g sz c) (P := True) rfl trivial ?_
  refine gW_if_lt (gdec_at D_Se_put 7 rfl) (tgt := 32) rfl (fun cq => absurd cq (nI_pos (n := k) (by omega))) (fun _ => ?_)
  refine gW_b D_Se_put 8 2 (pc' := 18) (l' := [(0, .ref 0), (1, .int (nI p)), (2, .int (nI k)), (3, .int v)]) (st' := [.int 5, .int (nI k)]) (h' := cSe g sz c) (P := True) rfl trivial ?_
  refine gW_ic_ge (gdec_at D_Se_put 10 rfl) (tgt := 32) rfl (fun cq => absurd cq (mt (gle (gk 5) (rfl : nI k = nI k) (by omega) (by omega)).mp (by omega))) (fun _ => ?_)
  refine gW_b D_Se_put 11 9 (pc' := 32) (l' := [(0, .ref 0), (1, .int (nI p)), (2, .int (nI k)), (3, .int v)]) (st' := []) (h' := cSe (upd g ((((nI p) * 5) + (nI k)).toNatClampNeg) v) sz c) (P := vp_in (((nI p) * 5) + (nI k)) 50 ∧ True) rfl ⟨(gvin (gadd (gmul (rfl : nI p = nI p) (gk 5)) (rfl : nI k = nI k)) (by omega) (by omega)), trivial⟩ ?_
  rw [show (((nI p) * 5) + (nI k)).toNatClampNeg = ((p * 5) + k) from gclp (gadd (gmul (rfl : nI p = nI p) (gk 5)) (rfl : nI k = nI k)) (by omega)]
  exact gW_vret (gdec_at D_Se_put 20 rfl) rfl (Nat.le_of_ble_eq_true rfl) ⟨rfl, rfl⟩ (Nat.le_of_ble_eq_true rfl) (Nat.le_of_ble_eq_true rfl)
def layF (g : Nat → Int32) (p : Nat) (v : Int32) : Nat → Int32 := upd (upd g (p * 5 + 2) (g (p * 5 + 2) - v)) (p * 5 + 4) (upd g (p * 5 + 2) (g (p * 5 + 2) - v) (p * 5 + 4) + v)

theorem m_lay (g : Nat → Int32) (sz : Nat) (c : Int32) (p : Nat) (v : Int32) (hs : sz ≤ 10) (hp : p < sz) : gM K_Se_lay { frames := 1, locals := 23, cells := 0, slots := 0 } [.ref 0, .int (nI p), .int v] (cSe g sz c) (gD (.inl none) (cSe (layF g p v) sz c)) := by
  refine gM_of rfl rfl (Nat.le_of_ble_eq_true rfl) (fun sc => ?_)
  refine gW_b D_Se_lay 0 6 (pc' := 6) (l' := [(0, .ref 0), (1, .int (nI p)), (2, .int v)]) (st' := [.int 2, .int (nI p), .ref 0, .int 2, .int (nI p), .ref 0]) (h' := cSe g sz c) (P := True) rfl trivial ?_
  refine gW_callV (m_valueOf g sz c p 2 (by omega) (by omega) (by omega)) lk_Se_26 [0, 1] (gdec_at D_Se_lay 6 rfl) (st := [.int 2, .int (nI p), .ref 0]) rfl rfl ⟨rfl, rfl⟩ (Nat.le_of_ble_eq_true rfl) rfl (by decide) rfl (Nat.le_of_ble_eq_true rfl) ⟨Nat.le_of_ble_eq_true rfl, Nat.le_of_ble_eq_true rfl⟩ ⟨Nat.le_of_ble_eq_true rfl, Nat.le_of_ble_eq_true rfl⟩ (gAft_r rfl rfl (h' := cSe g sz c) (st' := [.int (g (p * 5 + 2)), .int 2, .int (nI p), .ref 0]) (pc' := 9) (cs' := 0) (ss' := 0) rfl rfl rfl rfl rfl ?_)
  refine gW_b D_Se_lay 7 2 (pc' := 11) (l' := [(0, .ref 0), (1, .int (nI p)), (2, .int v)]) (st' := [.int ((g (p * 5 + 2)) - v), .int 2, .int (nI p), .ref 0]) (h' := cSe g sz c) (P := True) rfl trivial ?_
  refine gW_callV (m_put g sz c p 2 ((g (p * 5 + 2)) - v) (by omega) (by omega) (by omega)) lk_Se_30 [0, 1] (gdec_at D_Se_lay 9 rfl) (st := []) rfl rfl ⟨rfl, rfl⟩ (Nat.le_of_ble_eq_true rfl) rfl (by decide) rfl (Nat.le_of_ble_eq_true rfl) ⟨Nat.le_of_ble_eq_true rfl, Nat.le_of_ble_eq_true rfl⟩ ⟨Nat.le_of_ble_eq_true rfl, Nat.le_of_ble_eq_true rfl⟩ (gAft_r rfl rfl (h' := cSe (upd g (p * 5 + 2) ((g (p * 5 + 2)) - v)) sz c) (st' := []) (pc' := 14) (cs' := 0) (ss' := 0) rfl rfl rfl rfl rfl ?_)
  refine gW_b D_Se_lay 10 6 (pc' := 20) (l' := [(0, .ref 0), (1, .int (nI p)), (2, .int v)]) (st' := [.int 4, .int (nI p), .ref 0, .int 4, .int (nI p), .ref 0]) (h' := cSe (upd g (p * 5 + 2) ((g (p * 5 + 2)) - v)) sz c) (P := True) rfl trivial ?_
  refine gW_callV (m_valueOf (upd g (p * 5 + 2) ((g (p * 5 + 2)) - v)) sz c p 4 (by omega) (by omega) (by omega)) lk_Se_26 [0, 1] (gdec_at D_Se_lay 16 rfl) (st := [.int 4, .int (nI p), .ref 0]) rfl rfl ⟨rfl, rfl⟩ (Nat.le_of_ble_eq_true rfl) rfl (by decide) rfl (Nat.le_of_ble_eq_true rfl) ⟨Nat.le_of_ble_eq_true rfl, Nat.le_of_ble_eq_true rfl⟩ ⟨Nat.le_of_ble_eq_true rfl, Nat.le_of_ble_eq_true rfl⟩ (gAft_r rfl rfl (h' := cSe (upd g (p * 5 + 2) ((g (p * 5 + 2)) - v)) sz c) (st' := [.int ((upd g (p * 5 + 2) ((g (p * 5 + 2)) - v)) (p * 5 + 4)), .int 4, .int (nI p), .ref 0]) (pc' := 23) (cs' := 0) (ss' := 0) rfl rfl rfl rfl rfl ?_)
  refine gW_b D_Se_lay 17 2 (pc' := 25) (l' := [(0, .ref 0), (1, .int (nI p)), (2, .int v)]) (st' := [.int (((upd g (p * 5 + 2) ((g (p * 5 + 2)) - v)) (p * 5 + 4)) + v), .int 4, .int (nI p), .ref 0]) (h' := cSe (upd g (p * 5 + 2) ((g (p * 5 + 2)) - v)) sz c) (P := True) rfl trivial ?_
  refine gW_callV (m_put (upd g (p * 5 + 2) ((g (p * 5 + 2)) - v)) sz c p 4 (((upd g (p * 5 + 2) ((g (p * 5 + 2)) - v)) (p * 5 + 4)) + v) (by omega) (by omega) (by omega)) lk_Se_30 [0, 1] (gdec_at D_Se_lay 19 rfl) (st := []) rfl rfl ⟨rfl, rfl⟩ (Nat.le_of_ble_eq_true rfl) rfl (by decide) rfl (Nat.le_of_ble_eq_true rfl) ⟨Nat.le_of_ble_eq_true rfl, Nat.le_of_ble_eq_true rfl⟩ ⟨Nat.le_of_ble_eq_true rfl, Nat.le_of_ble_eq_true rfl⟩ (gAft_r rfl rfl (h' := cSe (upd (upd g (p * 5 + 2) ((g (p * 5 + 2)) - v)) (p * 5 + 4) (((upd g (p * 5 + 2) ((g (p * 5 + 2)) - v)) (p * 5 + 4)) + v)) sz c) (st' := []) (pc' := 28) (cs' := 0) (ss' := 0) rfl rfl rfl rfl rfl ?_)
  exact gW_vret (gdec_at D_Se_lay 20 rfl) rfl (Nat.le_of_ble_eq_true rfl) ⟨rfl, rfl⟩ (Nat.le_of_ble_eq_true rfl) (Nat.le_of_ble_eq_true rfl)
/-- the section at place p comes before that at o: by cell k, of several the lower number -/
def cb (k : Nat) (g : Nat → Int32) (p o : Nat) : Bool := if g (p * 5 + k) = g (o * 5 + k) then decide (g (p * 5 + 0) < g (o * 5 + 0)) else decide (g (p * 5 + k) < g (o * 5 + k))
theorem cb_1 {k : Nat} {g : Nat → Int32} {p o : Nat} (h : ¬ g (p * 5 + k) = g (o * 5 + k)) (h2 : g (p * 5 + k) < g (o * 5 + k)) : bI (cb k g p o) = 1 := by simp [cb, h, h2, bI]
theorem cb_2 {k : Nat} {g : Nat → Int32} {p o : Nat} (h : ¬ g (p * 5 + k) = g (o * 5 + k)) (h2 : ¬ g (p * 5 + k) < g (o * 5 + k)) : bI (cb k g p o) = 0 := by simp [cb, h, h2, bI]
theorem cb_3 {k : Nat} {g : Nat → Int32} {p o : Nat} (h : g (p * 5 + k) = g (o * 5 + k)) (h2 : g (p * 5 + 0) < g (o * 5 + 0)) : bI (cb k g p o) = 1 := by
  unfold cb
  rw [if_pos h, decide_eq_true h2]
  rfl
theorem cb_4 {k : Nat} {g : Nat → Int32} {p o : Nat} (h : g (p * 5 + k) = g (o * 5 + k)) (h2 : ¬ g (p * 5 + 0) < g (o * 5 + 0)) : bI (cb k g p o) = 0 := by
  unfold cb
  rw [if_pos h, decide_eq_false h2]
  rfl

theorem m_comesBefore (g : Nat → Int32) (sz : Nat) (c : Int32) (p o k : Nat) (hs : sz ≤ 10) (hp : p < sz) (ho : o < sz) (hk : k < 5) : gM K_Se_comesBefore { frames := 1, locals := 23, cells := 0, slots := 0 } [.ref 0, .int (nI p), .int (nI o), .int (nI k)] (cSe g sz c) (gD (.inl (some (.int (bI (cb k g p o))))) (cSe g sz c)) := by
  refine gM_of rfl rfl (Nat.le_of_ble_eq_true rfl) (fun sc => ?_)
  refine gW_b D_Se_comesBefore 0 3 (pc' := 3) (l' := [(0, .ref 0), (1, .int (nI p)), (2, .int (nI o)), (3, .int (nI k))]) (st' := [.int (nI k), .int (nI p), .ref 0]) (h' := cSe g sz c) (P := True) rfl trivial ?_
  refine gW_callV (m_valueOf g sz c p k (by omega) (by omega) (by omega)) lk_Se_26 [0, 1] (gdec_at D_Se_comesBefore 3 rfl) (st := []) rfl rfl ⟨rfl, rfl⟩ (Nat.le_of_ble_eq_true rfl) rfl (by decide) rfl (Nat.le_of_ble_eq_true rfl) ⟨Nat.le_of_ble_eq_true rfl, Nat.le_of_ble_eq_true rfl⟩ ⟨Nat.le_of_ble_eq_true rfl, Nat.le_of_ble_eq_true rfl⟩ (gAft_r rfl rfl (h' := cSe g sz c) (st' := [.int (g (p * 5 + k))]) (pc' := 6) (cs' := 0) (ss' := 0) rfl rfl rfl rfl rfl ?_)
  refine gW_b D_Se_comesBefore 4 4 (pc' := 11) (l' := [(0, .ref 0), (1, .int (nI p)), (2, .int (nI o)), (3, .int (nI k)), (4, .int (g (p * 5 + k)))]) (st' := [.int (nI k), .int (nI o), .ref 0]) (h' := cSe g sz c) (P := True) rfl trivial ?_
  refine gW_callV (m_valueOf g sz c o k (by omega) (by omega) (by omega)) lk_Se_26 [0, 1] (gdec_at D_Se_comesBefore 8 rfl) (st := []) rfl rfl ⟨rfl, rfl⟩ (Nat.le_of_ble_eq_true rfl) rfl (by decide) rfl (Nat.le_of_ble_eq_true rfl) ⟨Nat.le_of_ble_eq_true rfl, Nat.le_of_ble_eq_true rfl⟩ ⟨Nat.le_of_ble_eq_true rfl, Nat.le_of_ble_eq_true rfl⟩ (gAft_r rfl rfl (h' := cSe g sz c) (st' := [.int (g (o * 5 + k))]) (pc' := 14) (cs' := 0) (ss' := 0) rfl rfl rfl rfl rfl ?_)
  refine gW_b D_Se_comesBefore 9 3 (pc' := 20) (l' := [(0, .ref 0), (1, .int (nI p)), (2, .int (nI o)), (3, .int (nI k)), (4, .int (g (p * 5 + k))), (5, .int (g (o * 5 + k)))]) (st' := [.int (g (o * 5 + k)), .int (g (p * 5 + k))]) (h' := cSe g sz c) (P := True) rfl trivial ?_
  refine gW_ic_eq (gdec_at D_Se_comesBefore 12 rfl) (tgt := 38) rfl (fun d0 => ?_) (fun d0 => ?_)
  · skip
    refine gW_b D_Se_comesBefore 20 3 (pc' := 41) (l' := [(0, .ref 0), (1, .int (nI p)), (2, .int (nI o)), (3, .int (nI k)), (4, .int (g (p * 5 + k))), (5, .int (g (o * 5 + k)))]) (st' := [.int 0, .int (nI p), .ref 0]) (h' := cSe g sz c) (P := True) rfl trivial ?_
    refine gW_callV (m_valueOf g sz c p 0 (by omega) (by omega) (by omega)) lk_Se_26 [0, 1] (gdec_at D_Se_comesBefore 23 rfl) (st := []) rfl rfl ⟨rfl, rfl⟩ (Nat.le_of_ble_eq_true rfl) rfl (by decide) rfl (Nat.le_of_ble_eq_true rfl) ⟨Nat.le_of_ble_eq_true rfl, Nat.le_of_ble_eq_true rfl⟩ ⟨Nat.le_of_ble_eq_true rfl, Nat.le_of_ble_eq_true rfl⟩ (gAft_r rfl rfl (h' := cSe g sz c) (st' := [.int (g (p * 5 + 0))]) (pc' := 44) (cs' := 0) (ss' := 0) rfl rfl rfl rfl rfl ?_)
    refine gW_b D_Se_comesBefore 24 3 (pc' := 47) (l' := [(0, .ref 0), (1, .int (nI p)), (2, .int (nI o)), (3, .int (nI k)), (4, .int (g (p * 5 + k))), (5, .int (g (o * 5 + k)))]) (st' := [.int 0, .int (nI o), .ref 0, .int (g (p * 5 + 0))]) (h' := cSe g sz c) (P := True) rfl trivial ?_
    refine gW_callV (m_valueOf g sz c o 0 (by omega) (by omega) (by omega)) lk_Se_26 [0, 1] (gdec_at D_Se_comesBefore 27 rfl) (st := [.int (g (p * 5 + 0))]) rfl rfl ⟨rfl, rfl⟩ (Nat.le_of_ble_eq_true rfl) rfl (by decide) rfl (Nat.le_of_ble_eq_true rfl) ⟨Nat.le_of_ble_eq_true rfl, Nat.le_of_ble_eq_true rfl⟩ ⟨Nat.le_of_ble_eq_true rfl, Nat.le_of_ble_eq_true rfl⟩ (gAft_r rfl rfl (h' := cSe g sz c) (st' := [.int (g (o * 5 + 0)), .int (g (p * 5 + 0))]) (pc' := 50) (cs' := 0) (ss' := 0) rfl rfl rfl rfl rfl ?_)
    refine gW_ic_ge (gdec_at D_Se_comesBefore 28 rfl) (tgt := 57) rfl (fun d => ?_) (fun d => ?_)
    · skip
      refine gW_b D_Se_comesBefore 31 1 (pc' := 58) (l' := [(0, .ref 0), (1, .int (nI p)), (2, .int (nI o)), (3, .int (nI k)), (4, .int (g (p * 5 + k))), (5, .int (g (o * 5 + k)))]) (st' := [.int 0]) (h' := cSe g sz c) (P := True) rfl trivial ?_
      rw [cb_4 d0 (Int32.not_lt.mpr d)]
      exact gW_iret (gdec_at D_Se_comesBefore 32 rfl) rfl rfl (Nat.le_of_ble_eq_true rfl) ⟨rfl, rfl⟩ (Nat.le_of_ble_eq_true rfl) (Nat.le_of_ble_eq_true rfl)
    · skip
      refine gW_b D_Se_comesBefore 29 2 (pc' := 58) (l' := [(0, .ref 0), (1, .int (nI p)), (2, .int (nI o)), (3, .int (nI k)), (4, .int (g (p * 5 + k))), (5, .int (g (o * 5 + k)))]) (st' := [.int 1]) (h' := cSe g sz c) (P := True) rfl trivial ?_
      rw [cb_3 d0 (Int32.not_le.mp d)]
      exact gW_iret (gdec_at D_Se_comesBefore 32 rfl) rfl rfl (Nat.le_of_ble_eq_true rfl) ⟨rfl, rfl⟩ (Nat.le_of_ble_eq_true rfl) (Nat.le_of_ble_eq_true rfl)
  · skip
    refine gW_b D_Se_comesBefore 13 2 (pc' := 27) (l' := [(0, .ref 0), (1, .int (nI p)), (2, .int (nI o)), (3, .int (nI k)), (4, .int (g (p * 5 + k))), (5, .int (g (o * 5 + k)))]) (st' := [.int (g (o * 5 + k)), .int (g (p * 5 + k))]) (h' := cSe g sz c) (P := True) rfl trivial ?_
    refine gW_ic_ge (gdec_at D_Se_comesBefore 15 rfl) (tgt := 34) rfl (fun d => ?_) (fun d => ?_)
    · skip
      refine gW_b D_Se_comesBefore 18 2 (pc' := 58) (l' := [(0, .ref 0), (1, .int (nI p)), (2, .int (nI o)), (3, .int (nI k)), (4, .int (g (p * 5 + k))), (5, .int (g (o * 5 + k)))]) (st' := [.int 0]) (h' := cSe g sz c) (P := True) rfl trivial ?_
      rw [cb_2 d0 (Int32.not_lt.mpr d)]
      exact gW_iret (gdec_at D_Se_comesBefore 32 rfl) rfl rfl (Nat.le_of_ble_eq_true rfl) ⟨rfl, rfl⟩ (Nat.le_of_ble_eq_true rfl) (Nat.le_of_ble_eq_true rfl)
    · skip
      refine gW_b D_Se_comesBefore 16 2 (pc' := 58) (l' := [(0, .ref 0), (1, .int (nI p)), (2, .int (nI o)), (3, .int (nI k)), (4, .int (g (p * 5 + k))), (5, .int (g (o * 5 + k)))]) (st' := [.int 1]) (h' := cSe g sz c) (P := True) rfl trivial ?_
      rw [cb_1 d0 (Int32.not_le.mp d)]
      exact gW_iret (gdec_at D_Se_comesBefore 32 rfl) rfl rfl (Nat.le_of_ble_eq_true rfl) ⟨rfl, rfl⟩ (Nat.le_of_ble_eq_true rfl) (Nat.le_of_ble_eq_true rfl)
def swS (g : Nat → Int32) (p o k : Nat) : Nat → Int32 := upd (upd g (p * 5 + k) (g (o * 5 + k))) (o * 5 + k) (g (p * 5 + k))
def swapF (g : Nat → Int32) (p o : Nat) : Nat → Int32 := swS (swS (swS (swS (swS g p o 0) p o 1) p o 2) p o 3) p o 4

theorem m_swap (g : Nat → Int32) (sz : Nat) (c : Int32) (p o : Nat) (hs : sz ≤ 10) (hp : p < sz) (ho : o < sz) : gM K_Se_swap { frames := 1, locals := 23, cells := 0, slots := 0 } [.ref 0, .int (nI p), .int (nI o)] (cSe g sz c) (gD (.inl none) (cSe (swapF g p o) sz c)) := by
  refine gM_of rfl rfl (Nat.le_of_ble_eq_true rfl) (fun sc => ?_)
  refine gW_b D_Se_swap 0 4 (pc' := 4) (l' := [(0, .ref 0), (1, .int (nI p)), (2, .int (nI o)), (3, .int 0)]) (st' := [.int 5, .int 0]) (h' := cSe g sz c) (P := True) rfl trivial ?_
  refine gW_ic_ge (gdec_at D_Se_swap 4 rfl) (tgt := 41) rfl (fun cq => absurd cq (by decide)) (fun _ => ?_)
  refine gW_b D_Se_swap 5 3 (pc' := 10) (l' := [(0, .ref 0), (1, .int (nI p)), (2, .int (nI o)), (3, .int 0)]) (st' := [.int 0, .int (nI p), .ref 0]) (h' := cSe g sz c) (P := True) rfl trivial ?_
  refine gW_callV (m_valueOf g sz c p 0 (by omega) (by omega) (by omega)) lk_Se_26 [0, 1] (gdec_at D_Se_swap 8 rfl) (st := []) rfl rfl ⟨rfl, rfl⟩ (Nat.le_of_ble_eq_true rfl) rfl (by decide) rfl (Nat.le_of_ble_eq_true rfl) ⟨Nat.le_of_ble_eq_true rfl, Nat.le_of_ble_eq_true rfl⟩ ⟨Nat.le_of_ble_eq_true rfl, Nat.le_of_ble_eq_true rfl⟩ (gAft_r rfl rfl (h' := cSe g sz c) (st' := [.int (g (p * 5 + 0))]) (pc' := 13) (cs' := 0) (ss' := 0) rfl rfl rfl rfl rfl ?_)
  refine gW_b D_Se_swap 9 7 (pc' := 21) (l' := [(0, .ref 0), (1, .int (nI p)), (2, .int (nI o)), (3, .int 0), (4, .int (g (p * 5 + 0)))]) (st' := [.int 0, .int (nI o), .ref 0, .int 0, .int (nI p), .ref 0]) (h' := cSe g sz c) (P := True) rfl trivial ?_
  refine gW_callV (m_valueOf g sz c o 0 (by omega) (by omega) (by omega)) lk_Se_26 [0, 1] (gdec_at D_Se_swap 16 rfl) (st := [.int 0, .int (nI p), .ref 0]) rfl rfl ⟨rfl, rfl⟩ (Nat.le_of_ble_eq_true rfl) rfl (by decide) rfl (Nat.le_of_ble_eq_true rfl) ⟨Nat.le_of_ble_eq_true rfl, Nat.le_of_ble_eq_true rfl⟩ ⟨Nat.le_of_ble_eq_true rfl, Nat.le_of_ble_eq_true rfl⟩ (gAft_r rfl rfl (h' := cSe g sz c) (st' := [.int (g (o * 5 + 0)), .int 0, .int (nI p), .ref 0]) (pc' := 24) (cs' := 0) (ss' := 0) rfl rfl rfl rfl rfl ?_)
  refine gW_callV (m_put g sz c p 0 (g (o * 5 + 0)) (by omega) (by omega) (by omega)) lk_Se_30 [0, 1] (gdec_at D_Se_swap 17 rfl) (st := []) rfl rfl ⟨rfl, rfl⟩ (Nat.le_of_ble_eq_true rfl) rfl (by decide) rfl (Nat.le_of_ble_eq_true rfl) ⟨Nat.le_of_ble_eq_true rfl, Nat.le_of_ble_eq_true rfl⟩ ⟨Nat.le_of_ble_eq_true rfl, Nat.le_of_ble_eq_true rfl⟩ (gAft_r rfl rfl (h' := cSe (upd g (p * 5 + 0) (g (o * 5 + 0))) sz c) (st' := []) (pc' := 27) (cs' := 0) (ss' := 0) rfl rfl rfl rfl rfl ?_)
  refine gW_b D_Se_swap 18 4 (pc' := 32) (l' := [(0, .ref 0), (1, .int (nI p)), (2, .int (nI o)), (3, .int 0), (4, .int (g (p * 5 + 0)))]) (st' := [.int (g (p * 5 + 0)), .int 0, .int (nI o), .ref 0]) (h' := cSe (upd g (p * 5 + 0) (g (o * 5 + 0))) sz c) (P := True) rfl trivial ?_
  refine gW_callV (m_put (upd g (p * 5 + 0) (g (o * 5 + 0))) sz c o 0 (g (p * 5 + 0)) (by omega) (by omega) (by omega)) lk_Se_30 [0, 1] (gdec_at D_Se_swap 22 rfl) (st := []) rfl rfl ⟨rfl, rfl⟩ (Nat.le_of_ble_eq_true rfl) rfl (by decide) rfl (Nat.le_of_ble_eq_true rfl) ⟨Nat.le_of_ble_eq_true rfl, Nat.le_of_ble_eq_true rfl⟩ ⟨Nat.le_of_ble_eq_true rfl, Nat.le_of_ble_eq_true rfl⟩ (gAft_r rfl rfl (h' := cSe (swS g p o 0) sz c) (st' := []) (pc' := 35) (cs' := 0) (ss' := 0) rfl rfl rfl rfl rfl ?_)
  refine gW_b D_Se_swap 23 2 (pc' := 2) (l' := [(0, .ref 0), (1, .int (nI p)), (2, .int (nI o)), (3, .int 1), (4, .int (g (p * 5 + 0)))]) (st' := []) (h' := cSe (swS g p o 0) sz c) (P := True) rfl trivial ?_
  refine gW_b D_Se_swap 2 2 (pc' := 4) (l' := [(0, .ref 0), (1, .int (nI p)), (2, .int (nI o)), (3, .int 1), (4, .int (g (p * 5 + 0)))]) (st' := [.int 5, .int 1]) (h' := cSe (swS g p o 0) sz c) (P := True) rfl trivial ?_
  refine gW_ic_ge (gdec_at D_Se_swap 4 rfl) (tgt := 41) rfl (fun cq => absurd cq (by decide)) (fun _ => ?_)
  refine gW_b D_Se_swap 5 3 (pc' := 10) (l' := [(0, .ref 0), (1, .int (nI p)), (2, .int (nI o)), (3, .int 1), (4, .int (g (p * 5 + 0)))]) (st' := [.int 1, .int (nI p), .ref 0]) (h' := cSe (swS g p o 0) sz c) (P := True) rfl trivial ?_
  refine gW_callV (m_valueOf (swS g p o 0) sz c p 1 (by omega) (by omega) (by omega)) lk_Se_26 [0, 1] (gdec_at D_Se_swap 8 rfl) (st := []) rfl rfl ⟨rfl, rfl⟩ (Nat.le_of_ble_eq_true rfl) rfl (by decide) rfl (Nat.le_of_ble_eq_true rfl) ⟨Nat.le_of_ble_eq_true rfl, Nat.le_of_ble_eq_true rfl⟩ ⟨Nat.le_of_ble_eq_true rfl, Nat.le_of_ble_eq_true rfl⟩ (gAft_r rfl rfl (h' := cSe (swS g p o 0) sz c) (st' := [.int ((swS g p o 0) (p * 5 + 1))]) (pc' := 13) (cs' := 0) (ss' := 0) rfl rfl rfl rfl rfl ?_)
  refine gW_b D_Se_swap 9 7 (pc' := 21) (l' := [(0, .ref 0), (1, .int (nI p)), (2, .int (nI o)), (3, .int 1), (4, .int ((swS g p o 0) (p * 5 + 1)))]) (st' := [.int 1, .int (nI o), .ref 0, .int 1, .int (nI p), .ref 0]) (h' := cSe (swS g p o 0) sz c) (P := True) rfl trivial ?_
  refine gW_callV (m_valueOf (swS g p o 0) sz c o 1 (by omega) (by omega) (by omega)) lk_Se_26 [0, 1] (gdec_at D_Se_swap 16 rfl) (st := [.int 1, .int (nI p), .ref 0]) rfl rfl ⟨rfl, rfl⟩ (Nat.le_of_ble_eq_true rfl) rfl (by decide) rfl (Nat.le_of_ble_eq_true rfl) ⟨Nat.le_of_ble_eq_true rfl, Nat.le_of_ble_eq_true rfl⟩ ⟨Nat.le_of_ble_eq_true rfl, Nat.le_of_ble_eq_true rfl⟩ (gAft_r rfl rfl (h' := cSe (swS g p o 0) sz c) (st' := [.int ((swS g p o 0) (o * 5 + 1)), .int 1, .int (nI p), .ref 0]) (pc' := 24) (cs' := 0) (ss' := 0) rfl rfl rfl rfl rfl ?_)
  refine gW_callV (m_put (swS g p o 0) sz c p 1 ((swS g p o 0) (o * 5 + 1)) (by omega) (by omega) (by omega)) lk_Se_30 [0, 1] (gdec_at D_Se_swap 17 rfl) (st := []) rfl rfl ⟨rfl, rfl⟩ (Nat.le_of_ble_eq_true rfl) rfl (by decide) rfl (Nat.le_of_ble_eq_true rfl) ⟨Nat.le_of_ble_eq_true rfl, Nat.le_of_ble_eq_true rfl⟩ ⟨Nat.le_of_ble_eq_true rfl, Nat.le_of_ble_eq_true rfl⟩ (gAft_r rfl rfl (h' := cSe (upd (swS g p o 0) (p * 5 + 1) ((swS g p o 0) (o * 5 + 1))) sz c) (st' := []) (pc' := 27) (cs' := 0) (ss' := 0) rfl rfl rfl rfl rfl ?_)
  refine gW_b D_Se_swap 18 4 (pc' := 32) (l' := [(0, .ref 0), (1, .int (nI p)), (2, .int (nI o)), (3, .int 1), (4, .int ((swS g p o 0) (p * 5 + 1)))]) (st' := [.int ((swS g p o 0) (p * 5 + 1)), .int 1, .int (nI o), .ref 0]) (h' := cSe (upd (swS g p o 0) (p * 5 + 1) ((swS g p o 0) (o * 5 + 1))) sz c) (P := True) rfl trivial ?_
  refine gW_callV (m_put (upd (swS g p o 0) (p * 5 + 1) ((swS g p o 0) (o * 5 + 1))) sz c o 1 ((swS g p o 0) (p * 5 + 1)) (by omega) (by omega) (by omega)) lk_Se_30 [0, 1] (gdec_at D_Se_swap 22 rfl) (st := []) rfl rfl ⟨rfl, rfl⟩ (Nat.le_of_ble_eq_true rfl) rfl (by decide) rfl (Nat.le_of_ble_eq_true rfl) ⟨Nat.le_of_ble_eq_true rfl, Nat.le_of_ble_eq_true rfl⟩ ⟨Nat.le_of_ble_eq_true rfl, Nat.le_of_ble_eq_true rfl⟩ (gAft_r rfl rfl (h' := cSe (swS (swS g p o 0) p o 1) sz c) (st' := []) (pc' := 35) (cs' := 0) (ss' := 0) rfl rfl rfl rfl rfl ?_)
  refine gW_b D_Se_swap 23 2 (pc' := 2) (l' := [(0, .ref 0), (1, .int (nI p)), (2, .int (nI o)), (3, .int 2), (4, .int ((swS g p o 0) (p * 5 + 1)))]) (st' := []) (h' := cSe (swS (swS g p o 0) p o 1) sz c) (P := True) rfl trivial ?_
  refine gW_b D_Se_swap 2 2 (pc' := 4) (l' := [(0, .ref 0), (1, .int (nI p)), (2, .int (nI o)), (3, .int 2), (4, .int ((swS g p o 0) (p * 5 + 1)))]) (st' := [.int 5, .int 2]) (h' := cSe (swS (swS g p o 0) p o 1) sz c) (P := True) rfl trivial ?_
  refine gW_ic_ge (gdec_at D_Se_swap 4 rfl) (tgt := 41) rfl (fun cq => absurd cq (by decide)) (fun _ => ?_)
  refine gW_b D_Se_swap 5 3 (pc' := 10) (l' := [(0, .ref 0), (1, .int (nI p)), (2, .int (nI o)), (3, .int 2), (4, .int ((swS g p o 0) (p * 5 + 1)))]) (st' := [.int 2, .int (nI p), .ref 0]) (h' := cSe (swS (swS g p o 0) p o 1) sz c) (P := True) rfl trivial ?_
  refine gW_callV (m_valueOf (swS (swS g p o 0) p o 1) sz c p 2 (by omega) (by omega) (by omega)) lk_Se_26 [0, 1] (gdec_at D_Se_swap 8 rfl) (st := []) rfl rfl ⟨rfl, rfl⟩ (Nat.le_of_ble_eq_true rfl) rfl (by decide) rfl (Nat.le_of_ble_eq_true rfl) ⟨Nat.le_of_ble_eq_true rfl, Nat.le_of_ble_eq_true rfl⟩ ⟨Nat.le_of_ble_eq_true rfl, Nat.le_of_ble_eq_true rfl⟩ (gAft_r rfl rfl (h' := cSe (swS (swS g p o 0) p o 1) sz c) (st' := [.int ((swS (swS g p o 0) p o 1) (p * 5 + 2))]) (pc' := 13) (cs' := 0) (ss' := 0) rfl rfl rfl rfl rfl ?_)
  refine gW_b D_Se_swap 9 7 (pc' := 21) (l' := [(0, .ref 0), (1, .int (nI p)), (2, .int (nI o)), (3, .int 2), (4, .int ((swS (swS g p o 0) p o 1) (p * 5 + 2)))]) (st' := [.int 2, .int (nI o), .ref 0, .int 2, .int (nI p), .ref 0]) (h' := cSe (swS (swS g p o 0) p o 1) sz c) (P := True) rfl trivial ?_
  refine gW_callV (m_valueOf (swS (swS g p o 0) p o 1) sz c o 2 (by omega) (by omega) (by omega)) lk_Se_26 [0, 1] (gdec_at D_Se_swap 16 rfl) (st := [.int 2, .int (nI p), .ref 0]) rfl rfl ⟨rfl, rfl⟩ (Nat.le_of_ble_eq_true rfl) rfl (by decide) rfl (Nat.le_of_ble_eq_true rfl) ⟨Nat.le_of_ble_eq_true rfl, Nat.le_of_ble_eq_true rfl⟩ ⟨Nat.le_of_ble_eq_true rfl, Nat.le_of_ble_eq_true rfl⟩ (gAft_r rfl rfl (h' := cSe (swS (swS g p o 0) p o 1) sz c) (st' := [.int ((swS (swS g p o 0) p o 1) (o * 5 + 2)), .int 2, .int (nI p), .ref 0]) (pc' := 24) (cs' := 0) (ss' := 0) rfl rfl rfl rfl rfl ?_)
  refine gW_callV (m_put (swS (swS g p o 0) p o 1) sz c p 2 ((swS (swS g p o 0) p o 1) (o * 5 + 2)) (by omega) (by omega) (by omega)) lk_Se_30 [0, 1] (gdec_at D_Se_swap 17 rfl) (st := []) rfl rfl ⟨rfl, rfl⟩ (Nat.le_of_ble_eq_true rfl) rfl (by decide) rfl (Nat.le_of_ble_eq_true rfl) ⟨Nat.le_of_ble_eq_true rfl, Nat.le_of_ble_eq_true rfl⟩ ⟨Nat.le_of_ble_eq_true rfl, Nat.le_of_ble_eq_true rfl⟩ (gAft_r rfl rfl (h' := cSe (upd (swS (swS g p o 0) p o 1) (p * 5 + 2) ((swS (swS g p o 0) p o 1) (o * 5 + 2))) sz c) (st' := []) (pc' := 27) (cs' := 0) (ss' := 0) rfl rfl rfl rfl rfl ?_)
  refine gW_b D_Se_swap 18 4 (pc' := 32) (l' := [(0, .ref 0), (1, .int (nI p)), (2, .int (nI o)), (3, .int 2), (4, .int ((swS (swS g p o 0) p o 1) (p * 5 + 2)))]) (st' := [.int ((swS (swS g p o 0) p o 1) (p * 5 + 2)), .int 2, .int (nI o), .ref 0]) (h' := cSe (upd (swS (swS g p o 0) p o 1) (p * 5 + 2) ((swS (swS g p o 0) p o 1) (o * 5 + 2))) sz c) (P := True) rfl trivial ?_
  refine gW_callV (m_put (upd (swS (swS g p o 0) p o 1) (p * 5 + 2) ((swS (swS g p o 0) p o 1) (o * 5 + 2))) sz c o 2 ((swS (swS g p o 0) p o 1) (p * 5 + 2)) (by omega) (by omega) (by omega)) lk_Se_30 [0, 1] (gdec_at D_Se_swap 22 rfl) (st := []) rfl rfl ⟨rfl, rfl⟩ (Nat.le_of_ble_eq_true rfl) rfl (by decide) rfl (Nat.le_of_ble_eq_true rfl) ⟨Nat.le_of_ble_eq_true rfl, Nat.le_of_ble_eq_true rfl⟩ ⟨Nat.le_of_ble_eq_true rfl, Nat.le_of_ble_eq_true rfl⟩ (gAft_r rfl rfl (h' := cSe (swS (swS (swS g p o 0) p o 1) p o 2) sz c) (st' := []) (pc' := 35) (cs' := 0) (ss' := 0) rfl rfl rfl rfl rfl ?_)
  refine gW_b D_Se_swap 23 2 (pc' := 2) (l' := [(0, .ref 0), (1, .int (nI p)), (2, .int (nI o)), (3, .int 3), (4, .int ((swS (swS g p o 0) p o 1) (p * 5 + 2)))]) (st' := []) (h' := cSe (swS (swS (swS g p o 0) p o 1) p o 2) sz c) (P := True) rfl trivial ?_
  refine gW_b D_Se_swap 2 2 (pc' := 4) (l' := [(0, .ref 0), (1, .int (nI p)), (2, .int (nI o)), (3, .int 3), (4, .int ((swS (swS g p o 0) p o 1) (p * 5 + 2)))]) (st' := [.int 5, .int 3]) (h' := cSe (swS (swS (swS g p o 0) p o 1) p o 2) sz c) (P := True) rfl trivial ?_
  refine gW_ic_ge (gdec_at D_Se_swap 4 rfl) (tgt := 41) rfl (fun cq => absurd cq (by decide)) (fun _ => ?_)
  refine gW_b D_Se_swap 5 3 (pc' := 10) (l' := [(0, .ref 0), (1, .int (nI p)), (2, .int (nI o)), (3, .int 3), (4, .int ((swS (swS g p o 0) p o 1) (p * 5 + 2)))]) (st' := [.int 3, .int (nI p), .ref 0]) (h' := cSe (swS (swS (swS g p o 0) p o 1) p o 2) sz c) (P := True) rfl trivial ?_
  refine gW_callV (m_valueOf (swS (swS (swS g p o 0) p o 1) p o 2) sz c p 3 (by omega) (by omega) (by omega)) lk_Se_26 [0, 1] (gdec_at D_Se_swap 8 rfl) (st := []) rfl rfl ⟨rfl, rfl⟩ (Nat.le_of_ble_eq_true rfl) rfl (by decide) rfl (Nat.le_of_ble_eq_true rfl) ⟨Nat.le_of_ble_eq_true rfl, Nat.le_of_ble_eq_true rfl⟩ ⟨Nat.le_of_ble_eq_true rfl, Nat.le_of_ble_eq_true rfl⟩ (gAft_r rfl rfl (h' := cSe (swS (swS (swS g p o 0) p o 1) p o 2) sz c) (st' := [.int ((swS (swS (swS g p o 0) p o 1) p o 2) (p * 5 + 3))]) (pc' := 13) (cs' := 0) (ss' := 0) rfl rfl rfl rfl rfl ?_)
  refine gW_b D_Se_swap 9 7 (pc' := 21) (l' := [(0, .ref 0), (1, .int (nI p)), (2, .int (nI o)), (3, .int 3), (4, .int ((swS (swS (swS g p o 0) p o 1) p o 2) (p * 5 + 3)))]) (st' := [.int 3, .int (nI o), .ref 0, .int 3, .int (nI p), .ref 0]) (h' := cSe (swS (swS (swS g p o 0) p o 1) p o 2) sz c) (P := True) rfl trivial ?_
  refine gW_callV (m_valueOf (swS (swS (swS g p o 0) p o 1) p o 2) sz c o 3 (by omega) (by omega) (by omega)) lk_Se_26 [0, 1] (gdec_at D_Se_swap 16 rfl) (st := [.int 3, .int (nI p), .ref 0]) rfl rfl ⟨rfl, rfl⟩ (Nat.le_of_ble_eq_true rfl) rfl (by decide) rfl (Nat.le_of_ble_eq_true rfl) ⟨Nat.le_of_ble_eq_true rfl, Nat.le_of_ble_eq_true rfl⟩ ⟨Nat.le_of_ble_eq_true rfl, Nat.le_of_ble_eq_true rfl⟩ (gAft_r rfl rfl (h' := cSe (swS (swS (swS g p o 0) p o 1) p o 2) sz c) (st' := [.int ((swS (swS (swS g p o 0) p o 1) p o 2) (o * 5 + 3)), .int 3, .int (nI p), .ref 0]) (pc' := 24) (cs' := 0) (ss' := 0) rfl rfl rfl rfl rfl ?_)
  refine gW_callV (m_put (swS (swS (swS g p o 0) p o 1) p o 2) sz c p 3 ((swS (swS (swS g p o 0) p o 1) p o 2) (o * 5 + 3)) (by omega) (by omega) (by omega)) lk_Se_30 [0, 1] (gdec_at D_Se_swap 17 rfl) (st := []) rfl rfl ⟨rfl, rfl⟩ (Nat.le_of_ble_eq_true rfl) rfl (by decide) rfl (Nat.le_of_ble_eq_true rfl) ⟨Nat.le_of_ble_eq_true rfl, Nat.le_of_ble_eq_true rfl⟩ ⟨Nat.le_of_ble_eq_true rfl, Nat.le_of_ble_eq_true rfl⟩ (gAft_r rfl rfl (h' := cSe (upd (swS (swS (swS g p o 0) p o 1) p o 2) (p * 5 + 3) ((swS (swS (swS g p o 0) p o 1) p o 2) (o * 5 + 3))) sz c) (st' := []) (pc' := 27) (cs' := 0) (ss' := 0) rfl rfl rfl rfl rfl ?_)
  refine gW_b D_Se_swap 18 4 (pc' := 32) (l' := [(0, .ref 0), (1, .int (nI p)), (2, .int (nI o)), (3, .int 3), (4, .int ((swS (swS (swS g p o 0) p o 1) p o 2) (p * 5 + 3)))]) (st' := [.int ((swS (swS (swS g p o 0) p o 1) p o 2) (p * 5 + 3)), .int 3, .int (nI o), .ref 0]) (h' := cSe (upd (swS (swS (swS g p o 0) p o 1) p o 2) (p * 5 + 3) ((swS (swS (swS g p o 0) p o 1) p o 2) (o * 5 + 3))) sz c) (P := True) rfl trivial ?_
  refine gW_callV (m_put (upd (swS (swS (swS g p o 0) p o 1) p o 2) (p * 5 + 3) ((swS (swS (swS g p o 0) p o 1) p o 2) (o * 5 + 3))) sz c o 3 ((swS (swS (swS g p o 0) p o 1) p o 2) (p * 5 + 3)) (by omega) (by omega) (by omega)) lk_Se_30 [0, 1] (gdec_at D_Se_swap 22 rfl) (st := []) rfl rfl ⟨rfl, rfl⟩ (Nat.le_of_ble_eq_true rfl) rfl (by decide) rfl (Nat.le_of_ble_eq_true rfl) ⟨Nat.le_of_ble_eq_true rfl, Nat.le_of_ble_eq_true rfl⟩ ⟨Nat.le_of_ble_eq_true rfl, Nat.le_of_ble_eq_true rfl⟩ (gAft_r rfl rfl (h' := cSe (swS (swS (swS (swS g p o 0) p o 1) p o 2) p o 3) sz c) (st' := []) (pc' := 35) (cs' := 0) (ss' := 0) rfl rfl rfl rfl rfl ?_)
  refine gW_b D_Se_swap 23 2 (pc' := 2) (l' := [(0, .ref 0), (1, .int (nI p)), (2, .int (nI o)), (3, .int 4), (4, .int ((swS (swS (swS g p o 0) p o 1) p o 2) (p * 5 + 3)))]) (st' := []) (h' := cSe (swS (swS (swS (swS g p o 0) p o 1) p o 2) p o 3) sz c) (P := True) rfl trivial ?_
  refine gW_b D_Se_swap 2 2 (pc' := 4) (l' := [(0, .ref 0), (1, .int (nI p)), (2, .int (nI o)), (3, .int 4), (4, .int ((swS (swS (swS g p o 0) p o 1) p o 2) (p * 5 + 3)))]) (st' := [.int 5, .int 4]) (h' := cSe (swS (swS (swS (swS g p o 0) p o 1) p o 2) p o 3) sz c) (P := True) rfl trivial ?_
  refine gW_ic_ge (gdec_at D_Se_swap 4 rfl) (tgt := 41) rfl (fun cq => absurd cq (by decide)) (fun _ => ?_)
  refine gW_b D_Se_swap 5 3 (pc' := 10) (l' := [(0, .ref 0), (1, .int (nI p)), (2, .int (nI o)), (3, .int 4), (4, .int ((swS (swS (swS g p o 0) p o 1) p o 2) (p * 5 + 3)))]) (st' := [.int 4, .int (nI p), .ref 0]) (h' := cSe (swS (swS (swS (swS g p o 0) p o 1) p o 2) p o 3) sz c) (P := True) rfl trivial ?_
  refine gW_callV (m_valueOf (swS (swS (swS (swS g p o 0) p o 1) p o 2) p o 3) sz c p 4 (by omega) (by omega) (by omega)) lk_Se_26 [0, 1] (gdec_at D_Se_swap 8 rfl) (st := []) rfl rfl ⟨rfl, rfl⟩ (Nat.le_of_ble_eq_true rfl) rfl (by decide) rfl (Nat.le_of_ble_eq_true rfl) ⟨Nat.le_of_ble_eq_true rfl, Nat.le_of_ble_eq_true rfl⟩ ⟨Nat.le_of_ble_eq_true rfl, Nat.le_of_ble_eq_true rfl⟩ (gAft_r rfl rfl (h' := cSe (swS (swS (swS (swS g p o 0) p o 1) p o 2) p o 3) sz c) (st' := [.int ((swS (swS (swS (swS g p o 0) p o 1) p o 2) p o 3) (p * 5 + 4))]) (pc' := 13) (cs' := 0) (ss' := 0) rfl rfl rfl rfl rfl ?_)
  refine gW_b D_Se_swap 9 7 (pc' := 21) (l' := [(0, .ref 0), (1, .int (nI p)), (2, .int (nI o)), (3, .int 4), (4, .int ((swS (swS (swS (swS g p o 0) p o 1) p o 2) p o 3) (p * 5 + 4)))]) (st' := [.int 4, .int (nI o), .ref 0, .int 4, .int (nI p), .ref 0]) (h' := cSe (swS (swS (swS (swS g p o 0) p o 1) p o 2) p o 3) sz c) (P := True) rfl trivial ?_
  refine gW_callV (m_valueOf (swS (swS (swS (swS g p o 0) p o 1) p o 2) p o 3) sz c o 4 (by omega) (by omega) (by omega)) lk_Se_26 [0, 1] (gdec_at D_Se_swap 16 rfl) (st := [.int 4, .int (nI p), .ref 0]) rfl rfl ⟨rfl, rfl⟩ (Nat.le_of_ble_eq_true rfl) rfl (by decide) rfl (Nat.le_of_ble_eq_true rfl) ⟨Nat.le_of_ble_eq_true rfl, Nat.le_of_ble_eq_true rfl⟩ ⟨Nat.le_of_ble_eq_true rfl, Nat.le_of_ble_eq_true rfl⟩ (gAft_r rfl rfl (h' := cSe (swS (swS (swS (swS g p o 0) p o 1) p o 2) p o 3) sz c) (st' := [.int ((swS (swS (swS (swS g p o 0) p o 1) p o 2) p o 3) (o * 5 + 4)), .int 4, .int (nI p), .ref 0]) (pc' := 24) (cs' := 0) (ss' := 0) rfl rfl rfl rfl rfl ?_)
  refine gW_callV (m_put (swS (swS (swS (swS g p o 0) p o 1) p o 2) p o 3) sz c p 4 ((swS (swS (swS (swS g p o 0) p o 1) p o 2) p o 3) (o * 5 + 4)) (by omega) (by omega) (by omega)) lk_Se_30 [0, 1] (gdec_at D_Se_swap 17 rfl) (st := []) rfl rfl ⟨rfl, rfl⟩ (Nat.le_of_ble_eq_true rfl) rfl (by decide) rfl (Nat.le_of_ble_eq_true rfl) ⟨Nat.le_of_ble_eq_true rfl, Nat.le_of_ble_eq_true rfl⟩ ⟨Nat.le_of_ble_eq_true rfl, Nat.le_of_ble_eq_true rfl⟩ (gAft_r rfl rfl (h' := cSe (upd (swS (swS (swS (swS g p o 0) p o 1) p o 2) p o 3) (p * 5 + 4) ((swS (swS (swS (swS g p o 0) p o 1) p o 2) p o 3) (o * 5 + 4))) sz c) (st' := []) (pc' := 27) (cs' := 0) (ss' := 0) rfl rfl rfl rfl rfl ?_)
  refine gW_b D_Se_swap 18 4 (pc' := 32) (l' := [(0, .ref 0), (1, .int (nI p)), (2, .int (nI o)), (3, .int 4), (4, .int ((swS (swS (swS (swS g p o 0) p o 1) p o 2) p o 3) (p * 5 + 4)))]) (st' := [.int ((swS (swS (swS (swS g p o 0) p o 1) p o 2) p o 3) (p * 5 + 4)), .int 4, .int (nI o), .ref 0]) (h' := cSe (upd (swS (swS (swS (swS g p o 0) p o 1) p o 2) p o 3) (p * 5 + 4) ((swS (swS (swS (swS g p o 0) p o 1) p o 2) p o 3) (o * 5 + 4))) sz c) (P := True) rfl trivial ?_
  refine gW_callV (m_put (upd (swS (swS (swS (swS g p o 0) p o 1) p o 2) p o 3) (p * 5 + 4) ((swS (swS (swS (swS g p o 0) p o 1) p o 2) p o 3) (o * 5 + 4))) sz c o 4 ((swS (swS (swS (swS g p o 0) p o 1) p o 2) p o 3) (p * 5 + 4)) (by omega) (by omega) (by omega)) lk_Se_30 [0, 1] (gdec_at D_Se_swap 22 rfl) (st := []) rfl rfl ⟨rfl, rfl⟩ (Nat.le_of_ble_eq_true rfl) rfl (by decide) rfl (Nat.le_of_ble_eq_true rfl) ⟨Nat.le_of_ble_eq_true rfl, Nat.le_of_ble_eq_true rfl⟩ ⟨Nat.le_of_ble_eq_true rfl, Nat.le_of_ble_eq_true rfl⟩ (gAft_r rfl rfl (h' := cSe (swS (swS (swS (swS (swS g p o 0) p o 1) p o 2) p o 3) p o 4) sz c) (st' := []) (pc' := 35) (cs' := 0) (ss' := 0) rfl rfl rfl rfl rfl ?_)
  refine gW_b D_Se_swap 23 2 (pc' := 2) (l' := [(0, .ref 0), (1, .int (nI p)), (2, .int (nI o)), (3, .int 5), (4, .int ((swS (swS (swS (swS g p o 0) p o 1) p o 2) p o 3) (p * 5 + 4)))]) (st' := []) (h' := cSe (swS (swS (swS (swS (swS g p o 0) p o 1) p o 2) p o 3) p o 4) sz c) (P := True) rfl trivial ?_
  refine gW_b D_Se_swap 2 2 (pc' := 4) (l' := [(0, .ref 0), (1, .int (nI p)), (2, .int (nI o)), (3, .int 5), (4, .int ((swS (swS (swS (swS g p o 0) p o 1) p o 2) p o 3) (p * 5 + 4)))]) (st' := [.int 5, .int 5]) (h' := cSe (swS (swS (swS (swS (swS g p o 0) p o 1) p o 2) p o 3) p o 4) sz c) (P := True) rfl trivial ?_
  refine gW_ic_ge (gdec_at D_Se_swap 4 rfl) (tgt := 41) rfl (fun _ => ?_) (fun cq => absurd (by decide) cq)
  exact gW_vret (gdec_at D_Se_swap 25 rfl) rfl (Nat.le_of_ble_eq_true rfl) ⟨rfl, rfl⟩ (Nat.le_of_ble_eq_true rfl) (Nat.le_of_ble_eq_true rfl)
def plc (g : Nat → Int32) (x : Int32) : Nat → Nat → Int32
  | 0, _ => -1
  | n + 1, i => if g (i * 5 + 0) = x then nI i else plc g x n (i + 1)
theorem l_placeOf (g : Nat → Int32) (sz : Nat) (c : Int32) (x : Int32) (hs : sz ≤ 10) {sc : Nat × (Nat → Int32)} {n0 : Nat} (hn0 : n0 ≤ 2) : ∀ (n i : Nat) , i + n = sz → gW K_Se_placeOf sc { frames := 1, locals := 23, cells := 0, slots := 0 } n0 (gD (.inl (some (.int (plc g x n i)))) (cSe g sz c)) 0 0 2 [(0, .ref 0), (1, .int x), (2, .int (nI i))] [] (cSe g sz c) := by
  intro n
  induction n with
  | zero =>
    intro i  hi
    obtain rfl : sz = i := by omega
    refine gW_b D_Se_placeOf 2 3 (pc' := 7) (l' := [(0, .ref 0), (1, .int x), (2, .int (nI sz))]) (st' := [.int (nI sz), .int (nI sz)]) (h' := cSe g sz c) (P := True) rfl trivial ?_
    refine gW_ic_ge (gdec_at D_Se_placeOf 5 rfl) (tgt := 28) rfl (fun _ => ?_) (fun cq => absurd ((gle (rfl : nI sz = nI sz) (rfl : nI sz = nI sz) (by omega) (by omega)).mpr (by omega)) cq)
    refine gW_b D_Se_placeOf 16 1 (pc' := 29) (l' := [(0, .ref 0), (1, .int x), (2, .int (nI sz))]) (st' := [.int (-1)]) (h' := cSe g sz c) (P := True) rfl trivial ?_
    exact gW_iret (gdec_at D_Se_placeOf 17 rfl) rfl rfl hn0 ⟨rfl, rfl⟩ (Nat.le_of_ble_eq_true rfl) (Nat.le_of_ble_eq_true rfl)
  | succ n ih =>
    intro i  hi
    refine gW_b D_Se_placeOf 2 3 (pc' := 7) (l' := [(0, .ref 0), (1, .int x), (2, .int (nI i))]) (st' := [.int (nI sz), .int (nI i)]) (h' := cSe g sz c) (P := True) rfl trivial ?_
    refine gW_ic_ge (gdec_at D_Se_placeOf 5 rfl) (tgt := 28) rfl (fun cq => absurd cq (mt (gle (rfl : nI sz = nI sz) (rfl : nI i = nI i) (by omega) (by omega)).mp (by omega))) (fun _ => ?_)
    refine gW_b D_Se_placeOf 6 3 (pc' := 13) (l' := [(0, .ref 0), (1, .int x), (2, .int (nI i))]) (st' := [.int 0, .int (nI i), .ref 0]) (h' := cSe g sz c) (P := True) rfl trivial ?_
    refine gW_callV (m_valueOf g sz c i 0 (by omega) (by omega) (by omega)) lk_Se_26 [0, 1] (gdec_at D_Se_placeOf 9 rfl) (st := []) rfl rfl ⟨rfl, rfl⟩ (Nat.le_of_ble_eq_true rfl) rfl (by decide) rfl (Nat.le_of_ble_eq_true rfl) ⟨Nat.le_of_ble_eq_true rfl, Nat.le_of_ble_eq_true rfl⟩ ⟨Nat.le_of_ble_eq_true rfl, Nat.le_of_ble_eq_true rfl⟩ (gAft_r rfl rfl (h' := cSe g sz c) (st' := [.int (g (i * 5 + 0))]) (pc' := 16) (cs' := 0) (ss' := 0) rfl rfl rfl rfl rfl ?_)
    refine gW_b D_Se_placeOf 10 1 (pc' := 17) (l' := [(0, .ref 0), (1, .int x), (2, .int (nI i))]) (st' := [.int x, .int (g (i * 5 + 0))]) (h' := cSe g sz c) (P := True) rfl trivial ?_
    refine gW_ic_ne (gdec_at D_Se_placeOf 11 rfl) (tgt := 22) rfl (fun d => ?_) (fun d => ?_)
    · skip
      refine gW_b D_Se_placeOf 14 2 (pc' := 2) (l' := [(0, .ref 0), (1, .int x), (2, .int ((nI i) + 1))]) (st' := []) (h' := cSe g sz c) (P := True) rfl trivial ?_
      rw [show ((nI i) + 1 : Int32) = nI (i + 1) from (gadd (rfl : nI i = nI i) (gk 1))]
      rw [show plc g x (n + 1) i = plc g x n (i + 1) from if_neg d]
      exact ih (i + 1) (by omega)
    · skip
      refine gW_b D_Se_placeOf 12 1 (pc' := 21) (l' := [(0, .ref 0), (1, .int x), (2, .int (nI i))]) (st' := [.int (nI i)]) (h' := cSe g sz c) (P := True) rfl trivial ?_
      rw [show plc g x (n + 1) i = nI i from if_pos d]
      exact gW_iret (gdec_at D_Se_placeOf 13 rfl) rfl rfl hn0 ⟨rfl, rfl⟩ (Nat.le_of_ble_eq_true rfl) (Nat.le_of_ble_eq_true rfl)
theorem m_placeOf (g : Nat → Int32) (sz : Nat) (c : Int32) (x : Int32) (hs : sz ≤ 10) : gM K_Se_placeOf { frames := 1, locals := 23, cells := 0, slots := 0 } [.ref 0, .int x] (cSe g sz c) (gD (.inl (some (.int (plc g x sz 0)))) (cSe g sz c)) := by
  refine gM_of rfl rfl (Nat.le_of_ble_eq_true rfl) (fun sc => ?_)
  refine gW_b D_Se_placeOf 0 2 (pc' := 2) (l' := [(0, .ref 0), (1, .int x), (2, .int 0)]) (st' := []) (h' := cSe g sz c) (P := True) rfl trivial ?_
  exact l_placeOf g sz c x hs (Nat.le_refl _) sz 0 (Nat.zero_add sz)
def wtc (g : Nat → Int32) (t : Int32) : Nat → Int32
  | 0 => 0
  | i + 1 => if g (i * 5 + 1) = t then wtc g t i + g (i * 5 + 2) else wtc g t i
theorem l_wantedOf (g : Nat → Int32) (sz : Nat) (c : Int32) (t : Int32) (hs : sz ≤ 10) {sc : Nat × (Nat → Int32)} {n0 : Nat} {E : gO → gH → Prop} (kk : gW K_Se_wantedOf sc { frames := 1, locals := 23, cells := 0, slots := 0 } n0 E 0 0 37 [(0, .ref 0), (1, .int t), (2, .int (wtc g t sz)), (3, .int (nI sz))] [] (cSe g sz c)) : ∀ (n i : Nat), i + n = sz → gW K_Se_wantedOf sc { frames := 1, locals := 23, cells := 0, slots := 0 } n0 E 0 0 4 [(0, .ref 0), (1, .int t), (2, .int (wtc g t i)), (3, .int (nI i))] [] (cSe g sz c) := by
  intro n
  induction n with
  | zero =>
    intro i hi
    obtain rfl : sz = i := by omega
    refine gW_b D_Se_wantedOf 4 3 (pc' := 9) (l' := [(0, .ref 0), (1, .int t), (2, .int (wtc g t sz)), (3, .int (nI sz))]) (st' := [.int (nI sz), .int (nI sz)]) (h' := cSe g sz c) (P := True) rfl trivial ?_
    refine gW_ic_ge (gdec_at D_Se_wantedOf 7 rfl) (tgt := 37) rfl (fun _ => ?_) (fun cq => absurd ((gle (rfl : nI sz = nI sz) (rfl : nI sz = nI sz) (by omega) (by omega)).mpr (by omega)) cq)
    exact kk
  | succ n ih =>
    intro i hi
    refine gW_b D_Se_wantedOf 4 3 (pc' := 9) (l' := [(0, .ref 0), (1, .int t), (2, .int (wtc g t i)), (3, .int (nI i))]) (st' := [.int (nI sz), .int (nI i)]) (h' := cSe g sz c) (P := True) rfl trivial ?_
    refine gW_ic_ge (gdec_at D_Se_wantedOf 7 rfl) (tgt := 37) rfl (fun cq => absurd cq (mt (gle (rfl : nI sz = nI sz) (rfl : nI i = nI i) (by omega) (by omega)).mp (by omega))) (fun _ => ?_)
    refine gW_b D_Se_wantedOf 8 3 (pc' := 15) (l' := [(0, .ref 0), (1, .int t), (2, .int (wtc g t i)), (3, .int (nI i))]) (st' := [.int 1, .int (nI i), .ref 0]) (h' := cSe g sz c) (P := True) rfl trivial ?_
    refine gW_callV (m_valueOf g sz c i 1 (by omega) (by omega) (by omega)) lk_Se_26 [0, 1] (gdec_at D_Se_wantedOf 11 rfl) (st := []) rfl rfl ⟨rfl, rfl⟩ (Nat.le_of_ble_eq_true rfl) rfl (by decide) rfl (Nat.le_of_ble_eq_true rfl) ⟨Nat.le_of_ble_eq_true rfl, Nat.le_of_ble_eq_true rfl⟩ ⟨Nat.le_of_ble_eq_true rfl, Nat.le_of_ble_eq_true rfl⟩ (gAft_r rfl rfl (h' := cSe g sz c) (st' := [.int (g (i * 5 + 1))]) (pc' := 18) (cs' := 0) (ss' := 0) rfl rfl rfl rfl rfl ?_)
    refine gW_b D_Se_wantedOf 12 1 (pc' := 19) (l' := [(0, .ref 0), (1, .int t), (2, .int (wtc g t i)), (3, .int (nI i))]) (st' := [.int t, .int (g (i * 5 + 1))]) (h' := cSe g sz c) (P := True) rfl trivial ?_
    refine gW_ic_ne (gdec_at D_Se_wantedOf 13 rfl) (tgt := 31) rfl (fun d => ?_) (fun d => ?_)
    · skip
      refine gW_b D_Se_wantedOf 21 2 (pc' := 4) (l' := [(0, .ref 0), (1, .int t), (2, .int (wtc g t i)), (3, .int ((nI i) + 1))]) (st' := []) (h' := cSe g sz c) (P := True) rfl trivial ?_
      rw [show ((nI i) + 1 : Int32) = nI (i + 1) from (gadd (rfl : nI i = nI i) (gk 1))]
      rw [show wtc g t i = wtc g t (i + 1) from (if_neg d).symm]
      exact ih (i + 1) (by omega)
    · skip
      refine gW_b D_Se_wantedOf 14 4 (pc' := 26) (l' := [(0, .ref 0), (1, .int t), (2, .int (wtc g t i)), (3, .int (nI i))]) (st' := [.int 2, .int (nI i), .ref 0, .int (wtc g t i)]) (h' := cSe g sz c) (P := True) rfl trivial ?_
      refine gW_callV (m_valueOf g sz c i 2 (by omega) (by omega) (by omega)) lk_Se_26 [0, 1] (gdec_at D_Se_wantedOf 18 rfl) (st := [.int (wtc g t i)]) rfl rfl ⟨rfl, rfl⟩ (Nat.le_of_ble_eq_true rfl) rfl (by decide) rfl (Nat.le_of_ble_eq_true rfl) ⟨Nat.le_of_ble_eq_true rfl, Nat.le_of_ble_eq_true rfl⟩ ⟨Nat.le_of_ble_eq_true rfl, Nat.le_of_ble_eq_true rfl⟩ (gAft_r rfl rfl (h' := cSe g sz c) (st' := [.int (g (i * 5 + 2)), .int (wtc g t i)]) (pc' := 29) (cs' := 0) (ss' := 0) rfl rfl rfl rfl rfl ?_)
      refine gW_b D_Se_wantedOf 19 4 (pc' := 4) (l' := [(0, .ref 0), (1, .int t), (2, .int ((wtc g t i) + (g (i * 5 + 2)))), (3, .int ((nI i) + 1))]) (st' := []) (h' := cSe g sz c) (P := True) rfl trivial ?_
      rw [show ((nI i) + 1 : Int32) = nI (i + 1) from (gadd (rfl : nI i = nI i) (gk 1))]
      rw [show wtc g t i + g (i * 5 + 2) = wtc g t (i + 1) from (if_pos d).symm]
      exact ih (i + 1) (by omega)
theorem m_wantedOf (g : Nat → Int32) (sz : Nat) (c : Int32) (t : Int32) (hs : sz ≤ 10) : gM K_Se_wantedOf { frames := 1, locals := 23, cells := 0, slots := 0 } [.ref 0, .int t] (cSe g sz c) (gD (.inl (some (.int (wtc g t sz)))) (cSe g sz c)) := by
  refine gM_of rfl rfl (Nat.le_of_ble_eq_true rfl) (fun sc => ?_)
  refine gW_b D_Se_wantedOf 0 4 (pc' := 4) (l' := [(0, .ref 0), (1, .int t), (2, .int 0), (3, .int 0)]) (st' := []) (h' := cSe g sz c) (P := True) rfl trivial ?_
  refine l_wantedOf g sz c t hs ?_ sz 0 (Nat.zero_add sz)
  refine gW_b D_Se_wantedOf 23 1 (pc' := 38) (l' := [(0, .ref 0), (1, .int t), (2, .int (wtc g t sz)), (3, .int (nI sz))]) (st' := [.int (wtc g t sz)]) (h' := cSe g sz c) (P := True) rfl trivial ?_
  exact gW_iret (gdec_at D_Se_wantedOf 24 rfl) rfl rfl (Nat.le_of_ble_eq_true rfl) ⟨rfl, rfl⟩ (Nat.le_of_ble_eq_true rfl) (Nat.le_of_ble_eq_true rfl)
def adF (g : Nat → Int32) (sz : Nat) (c t u d : Int32) : Nat → Int32 := upd (upd (upd (upd (upd g (sz * 5 + 0) c) (sz * 5 + 1) t) (sz * 5 + 2) u) (sz * 5 + 3) d) (sz * 5 + 4) 0

theorem m_add (g : Nat → Int32) (sz : Nat) (c : Int32) (t u d : Int32) (hs : sz < 10) : gM K_Se_add { frames := 1, locals := 23, cells := 0, slots := 0 } [.ref 0, .int t, .int u, .int d] (cSe g sz c) (gD (.inl (some (.int c))) (cSe (adF g sz c t u d) (sz + 1) (c + 1))) := by
  refine gM_of rfl rfl (Nat.le_of_ble_eq_true rfl) (fun sc => ?_)
  refine gW_b D_Se_add 0 3 (pc' := 6) (l' := [(0, .ref 0), (1, .int t), (2, .int u), (3, .int d)]) (st' := [.int 10, .int (nI sz)]) (h' := cSe g sz c) (P := True) rfl trivial ?_
  refine gW_ic_lt (gdec_at D_Se_add 3 rfl) (tgt := 11) rfl (fun _ => ?_) (fun cq => absurd ((glt (rfl : nI sz = nI sz) (gk 10) (by omega) (by omega)).mpr (by omega)) cq)
  refine gW_b D_Se_add 6 14 (pc' := 35) (l' := [(0, .ref 0), (1, .int t), (2, .int u), (3, .int d), (4, .int (nI sz))]) (st' := [.int c, .int 0, .int (nI sz), .ref 0]) (h' := [cO 1 [.ref 1, .int ((nI sz) + 1), .int c], cI 50 g]) (P := True) rfl trivial ?_
  rw [show ((nI sz) + 1 : Int32) = nI (sz + 1) from (gadd (rfl : nI sz = nI sz) (gk 1))]
  refine gW_callV (m_put g (sz + 1) c sz 0 c (by omega) (by omega) (by omega)) lk_Se_30 [0, 1] (gdec_at D_Se_add 20 rfl) (st := []) rfl rfl ⟨rfl, rfl⟩ (Nat.le_of_ble_eq_true rfl) rfl (by decide) rfl (Nat.le_of_ble_eq_true rfl) ⟨Nat.le_of_ble_eq_true rfl, Nat.le_of_ble_eq_true rfl⟩ ⟨Nat.le_of_ble_eq_true rfl, Nat.le_of_ble_eq_true rfl⟩ (gAft_r rfl rfl (h' := cSe (upd g (sz * 5 + 0) c) (sz + 1) c) (st' := []) (pc' := 38) (cs' := 0) (ss' := 0) rfl rfl rfl rfl rfl ?_)
  refine gW_b D_Se_add 21 4 (pc' := 43) (l' := [(0, .ref 0), (1, .int t), (2, .int u), (3, .int d), (4, .int (nI sz))]) (st' := [.int t, .int 1, .int (nI sz), .ref 0]) (h' := cSe (upd g (sz * 5 + 0) c) (sz + 1) c) (P := True) rfl trivial ?_
  refine gW_callV (m_put (upd g (sz * 5 + 0) c) (sz + 1) c sz 1 t (by omega) (by omega) (by omega)) lk_Se_30 [0, 1] (gdec_at D_Se_add 25 rfl) (st := []) rfl rfl ⟨rfl, rfl⟩ (Nat.le_of_ble_eq_true rfl) rfl (by decide) rfl (Nat.le_of_ble_eq_true rfl) ⟨Nat.le_of_ble_eq_true rfl, Nat.le_of_ble_eq_true rfl⟩ ⟨Nat.le_of_ble_eq_true rfl, Nat.le_of_ble_eq_true rfl⟩ (gAft_r rfl rfl (h' := cSe (upd (upd g (sz * 5 + 0) c) (sz * 5 + 1) t) (sz + 1) c) (st' := []) (pc' := 46) (cs' := 0) (ss' := 0) rfl rfl rfl rfl rfl ?_)
  refine gW_b D_Se_add 26 4 (pc' := 51) (l' := [(0, .ref 0), (1, .int t), (2, .int u), (3, .int d), (4, .int (nI sz))]) (st' := [.int u, .int 2, .int (nI sz), .ref 0]) (h' := cSe (upd (upd g (sz * 5 + 0) c) (sz * 5 + 1) t) (sz + 1) c) (P := True) rfl trivial ?_
  refine gW_callV (m_put (upd (upd g (sz * 5 + 0) c) (sz * 5 + 1) t) (sz + 1) c sz 2 u (by omega) (by omega) (by omega)) lk_Se_30 [0, 1] (gdec_at D_Se_add 30 rfl) (st := []) rfl rfl ⟨rfl, rfl⟩ (Nat.le_of_ble_eq_true rfl) rfl (by decide) rfl (Nat.le_of_ble_eq_true rfl) ⟨Nat.le_of_ble_eq_true rfl, Nat.le_of_ble_eq_true rfl⟩ ⟨Nat.le_of_ble_eq_true rfl, Nat.le_of_ble_eq_true rfl⟩ (gAft_r rfl rfl (h' := cSe (upd (upd (upd g (sz * 5 + 0) c) (sz * 5 + 1) t) (sz * 5 + 2) u) (sz + 1) c) (st' := []) (pc' := 54) (cs' := 0) (ss' := 0) rfl rfl rfl rfl rfl ?_)
  refine gW_b D_Se_add 31 4 (pc' := 59) (l' := [(0, .ref 0), (1, .int t), (2, .int u), (3, .int d), (4, .int (nI sz))]) (st' := [.int d, .int 3, .int (nI sz), .ref 0]) (h' := cSe (upd (upd (upd g (sz * 5 + 0) c) (sz * 5 + 1) t) (sz * 5 + 2) u) (sz + 1) c) (P := True) rfl trivial ?_
  refine gW_callV (m_put (upd (upd (upd g (sz * 5 + 0) c) (sz * 5 + 1) t) (sz * 5 + 2) u) (sz + 1) c sz 3 d (by omega) (by omega) (by omega)) lk_Se_30 [0, 1] (gdec_at D_Se_add 35 rfl) (st := []) rfl rfl ⟨rfl, rfl⟩ (Nat.le_of_ble_eq_true rfl) rfl (by decide) rfl (Nat.le_of_ble_eq_true rfl) ⟨Nat.le_of_ble_eq_true rfl, Nat.le_of_ble_eq_true rfl⟩ ⟨Nat.le_of_ble_eq_true rfl, Nat.le_of_ble_eq_true rfl⟩ (gAft_r rfl rfl (h' := cSe (upd (upd (upd (upd g (sz * 5 + 0) c) (sz * 5 + 1) t) (sz * 5 + 2) u) (sz * 5 + 3) d) (sz + 1) c) (st' := []) (pc' := 62) (cs' := 0) (ss' := 0) rfl rfl rfl rfl rfl ?_)
  refine gW_b D_Se_add 36 4 (pc' := 67) (l' := [(0, .ref 0), (1, .int t), (2, .int u), (3, .int d), (4, .int (nI sz))]) (st' := [.int 0, .int 4, .int (nI sz), .ref 0]) (h' := cSe (upd (upd (upd (upd g (sz * 5 + 0) c) (sz * 5 + 1) t) (sz * 5 + 2) u) (sz * 5 + 3) d) (sz + 1) c) (P := True) rfl trivial ?_
  refine gW_callV (m_put (upd (upd (upd (upd g (sz * 5 + 0) c) (sz * 5 + 1) t) (sz * 5 + 2) u) (sz * 5 + 3) d) (sz + 1) c sz 4 0 (by omega) (by omega) (by omega)) lk_Se_30 [0, 1] (gdec_at D_Se_add 40 rfl) (st := []) rfl rfl ⟨rfl, rfl⟩ (Nat.le_of_ble_eq_true rfl) rfl (by decide) rfl (Nat.le_of_ble_eq_true rfl) ⟨Nat.le_of_ble_eq_true rfl, Nat.le_of_ble_eq_true rfl⟩ ⟨Nat.le_of_ble_eq_true rfl, Nat.le_of_ble_eq_true rfl⟩ (gAft_r rfl rfl (h' := cSe (upd (upd (upd (upd (upd g (sz * 5 + 0) c) (sz * 5 + 1) t) (sz * 5 + 2) u) (sz * 5 + 3) d) (sz * 5 + 4) 0) (sz + 1) c) (st' := []) (pc' := 70) (cs' := 0) (ss' := 0) rfl rfl rfl rfl rfl ?_)
  refine gW_b D_Se_add 41 10 (pc' := 86) (l' := [(0, .ref 0), (1, .int t), (2, .int u), (3, .int d), (4, .int (nI sz))]) (st' := [.int ((c + 1) - 1)]) (h' := cSe (upd (upd (upd (upd (upd g (sz * 5 + 0) c) (sz * 5 + 1) t) (sz * 5 + 2) u) (sz * 5 + 3) d) (sz * 5 + 4) 0) (sz + 1) (c + 1)) (P := True) rfl trivial ?_
  rw [gacs c]
  exact gW_iret (gdec_at D_Se_add 51 rfl) rfl rfl (Nat.le_of_ble_eq_true rfl) ⟨rfl, rfl⟩ (Nat.le_of_ble_eq_true rfl) (Nat.le_of_ble_eq_true rfl)
def rcS (g : Nat → Int32) (q k : Nat) : Nat → Int32 := upd g (q * 5 + k) (g ((q + 1) * 5 + k))
def rcF (g : Nat → Int32) (q : Nat) : Nat → Int32 := rcS (rcS (rcS (rcS (rcS g q 0) q 1) q 2) q 3) q 4
/-- the rows behind p, j of them, move one place down -/
def rmO (g : Nat → Int32) (p : Nat) : Nat → Nat → Int32
  | 0 => g
  | j + 1 => rcF (rmO g p j) (p + j)
theorem l_remove (g : Nat → Int32) (sz : Nat) (c : Int32) (p : Nat) (hs : sz ≤ 10) (hp : p < sz) {sc : Nat × (Nat → Int32)} {n0 : Nat} {E : gO → gH → Prop} (kk : gW K_Se_remove sc { frames := 1, locals := 23, cells := 0, slots := 0 } n0 E 0 0 58 [(0, .ref 0), (1, .int (nI p)), (2, .int (nI (p + (sz - 1 - p) + 1)))] [] (cSe (rmO g p (sz - 1 - p)) sz c)) : ∀ (n i : Nat), i + n = (sz - 1 - p) → gW K_Se_remove sc { frames := 1, locals := 23, cells := 0, slots := 0 } n0 E 0 0 17 [(0, .ref 0), (1, .int (nI p)), (2, .int (nI (p + i + 1)))] [] (cSe (rmO g p i) sz c) := by
  intro n
  induction n with
  | zero =>
    intro i hi
    obtain rfl : (sz - 1 - p) = i := by omega
    refine gW_b D_Se_remove 11 3 (pc' := 22) (l' := [(0, .ref 0), (1, .int (nI p)), (2, .int (nI (p + (sz - 1 - p) + 1)))]) (st' := [.int (nI sz), .int (nI (p + (sz - 1 - p) + 1))]) (h' := cSe (rmO g p (sz - 1 - p)) sz c) (P := True) rfl trivial ?_
    refine gW_ic_ge (gdec_at D_Se_remove 14 rfl) (tgt := 58) rfl (fun _ => ?_) (fun cq => absurd ((gle (rfl : nI sz = nI sz) (rfl : nI (p + (sz - 1 - p) + 1) = nI (p + (sz - 1 - p) + 1)) (by omega) (by omega)).mpr (by omega)) cq)
    exact kk
  | succ n ih =>
    intro i hi
    refine gW_b D_Se_remove 11 3 (pc' := 22) (l' := [(0, .ref 0), (1, .int (nI p)), (2, .int (nI (p + i + 1)))]) (st' := [.int (nI sz), .int (nI (p + i + 1))]) (h' := cSe (rmO g p i) sz c) (P := True) rfl trivial ?_
    refine gW_ic_ge (gdec_at D_Se_remove 14 rfl) (tgt := 58) rfl (fun cq => absurd cq (mt (gle (rfl : nI sz = nI sz) (rfl : nI (p + i + 1) = nI (p + i + 1)) (by omega) (by omega)).mp (by omega))) (fun _ => ?_)
    refine gW_b D_Se_remove 15 4 (pc' := 29) (l' := [(0, .ref 0), (1, .int (nI p)), (2, .int (nI (p + i + 1))), (3, .int 0)]) (st' := [.int 5, .int 0]) (h' := cSe (rmO g p i) sz c) (P := True) rfl trivial ?_
    refine gW_ic_ge (gdec_at D_Se_remove 19 rfl) (tgt := 52) rfl (fun cq => absurd cq (by decide)) (fun _ => ?_)
    refine gW_b D_Se_remove 20 8 (pc' := 40) (l' := [(0, .ref 0), (1, .int (nI p)), (2, .int (nI (p + i + 1))), (3, .int 0)]) (st' := [.int 0, .int (nI (p + i + 1)), .ref 0, .int 0, .int ((nI (p + i + 1)) - 1), .ref 0]) (h' := cSe (rmO g p i) sz c) (P := True) rfl trivial ?_
    refine gW_callV (m_valueOf (rmO g p i) sz c (p + i + 1) 0 (by omega) (by omega) (by omega)) lk_Se_26 [0, 1] (gdec_at D_Se_remove 28 rfl) (st := [.int 0, .int ((nI (p + i + 1)) - 1), .ref 0]) rfl rfl ⟨rfl, rfl⟩ (Nat.le_of_ble_eq_true rfl) rfl (by decide) rfl (Nat.le_of_ble_eq_true rfl) ⟨Nat.le_of_ble_eq_true rfl, Nat.le_of_ble_eq_true rfl⟩ ⟨Nat.le_of_ble_eq_true rfl, Nat.le_of_ble_eq_true rfl⟩ (gAft_r rfl rfl (h' := cSe (rmO g p i) sz c) (st' := [.int ((rmO g p i) ((p + i + 1) * 5 + 0)), .int 0, .int ((nI (p + i + 1)) - 1), .ref 0]) (pc' := 43) (cs' := 0) (ss' := 0) rfl rfl rfl rfl rfl ?_)
    rw [show ((nI (p + i + 1)) - 1 : Int32) = nI (p + i) from (gsub1 (rfl : nI (p + i + 1) = nI (p + i + 1)))]
    refine gW_callV (m_put (rmO g p i) sz c (p + i) 0 ((rmO g p i) ((p + i + 1) * 5 + 0)) (by omega) (by omega) (by omega)) lk_Se_30 [0, 1] (gdec_at D_Se_remove 29 rfl) (st := []) rfl rfl ⟨rfl, rfl⟩ (Nat.le_of_ble_eq_true rfl) rfl (by decide) rfl (Nat.le_of_ble_eq_true rfl) ⟨Nat.le_of_ble_eq_true rfl, Nat.le_of_ble_eq_true rfl⟩ ⟨Nat.le_of_ble_eq_true rfl, Nat.le_of_ble_eq_true rfl⟩ (gAft_r rfl rfl (h' := cSe (rcS (rmO g p i) (p + i) 0) sz c) (st' := []) (pc' := 46) (cs' := 0) (ss' := 0) rfl rfl rfl rfl rfl ?_)
    refine gW_b D_Se_remove 30 2 (pc' := 27) (l' := [(0, .ref 0), (1, .int (nI p)), (2, .int (nI (p + i + 1))), (3, .int 1)]) (st' := []) (h' := cSe (rcS (rmO g p i) (p + i) 0) sz c) (P := True) rfl trivial ?_
    refine gW_b D_Se_remove 17 2 (pc' := 29) (l' := [(0, .ref 0), (1, .int (nI p)), (2, .int (nI (p + i + 1))), (3, .int 1)]) (st' := [.int 5, .int 1]) (h' := cSe (rcS (rmO g p i) (p + i) 0) sz c) (P := True) rfl trivial ?_
    refine gW_ic_ge (gdec_at D_Se_remove 19 rfl) (tgt := 52) rfl (fun cq => absurd cq (by decide)) (fun _ => ?_)
    refine gW_b D_Se_remove 20 8 (pc' := 40) (l' := [(0, .ref 0), (1, .int (nI p)), (2, .int (nI (p + i + 1))), (3, .int 1)]) (st' := [.int 1, .int (nI (p + i + 1)), .ref 0, .int 1, .int ((nI (p + i + 1)) - 1), .ref 0]) (h' := cSe (rcS (rmO g p i) (p + i) 0) sz c) (P := True) rfl trivial ?_
    refine gW_callV (m_valueOf (rcS (rmO g p i) (p + i) 0) sz c (p + i + 1) 1 (by omega) (by omega) (by omega)) lk_Se_26 [0, 1] (gdec_at D_Se_remove 28 rfl) (st := [.int 1, .int ((nI (p + i + 1)) - 1), .ref 0]) rfl rfl ⟨rfl, rfl⟩ (Nat.le_of_ble_eq_true rfl) rfl (by decide) rfl (Nat.le_of_ble_eq_true rfl) ⟨Nat.le_of_ble_eq_true rfl, Nat.le_of_ble_eq_true rfl⟩ ⟨Nat.le_of_ble_eq_true rfl, Nat.le_of_ble_eq_true rfl⟩ (gAft_r rfl rfl (h' := cSe (rcS (rmO g p i) (p + i) 0) sz c) (st' := [.int ((rcS (rmO g p i) (p + i) 0) ((p + i + 1) * 5 + 1)), .int 1, .int ((nI (p + i + 1)) - 1), .ref 0]) (pc' := 43) (cs' := 0) (ss' := 0) rfl rfl rfl rfl rfl ?_)
    rw [show ((nI (p + i + 1)) - 1 : Int32) = nI (p + i) from (gsub1 (rfl : nI (p + i + 1) = nI (p + i + 1)))]
    refine gW_callV (m_put (rcS (rmO g p i) (p + i) 0) sz c (p + i) 1 ((rcS (rmO g p i) (p + i) 0) ((p + i + 1) * 5 + 1)) (by omega) (by omega) (by omega)) lk_Se_30 [0, 1] (gdec_at D_Se_remove 29 rfl) (st := []) rfl rfl ⟨rfl, rfl⟩ (Nat.le_of_ble_eq_true rfl) rfl (by decide) rfl (Nat.le_of_ble_eq_true rfl) ⟨Nat.le_of_ble_eq_true rfl, Nat.le_of_ble_eq_true rfl⟩ ⟨Nat.le_of_ble_eq_true rfl, Nat.le_of_ble_eq_true rfl⟩ (gAft_r rfl rfl (h' := cSe (rcS (rcS (rmO g p i) (p + i) 0) (p + i) 1) sz c) (st' := []) (pc' := 46) (cs' := 0) (ss' := 0) rfl rfl rfl rfl rfl ?_)
    refine gW_b D_Se_remove 30 2 (pc' := 27) (l' := [(0, .ref 0), (1, .int (nI p)), (2, .int (nI (p + i + 1))), (3, .int 2)]) (st' := []) (h' := cSe (rcS (rcS (rmO g p i) (p + i) 0) (p + i) 1) sz c) (P := True) rfl trivial ?_
    refine gW_b D_Se_remove 17 2 (pc' := 29) (l' := [(0, .ref 0), (1, .int (nI p)), (2, .int (nI (p + i + 1))), (3, .int 2)]) (st' := [.int 5, .int 2]) (h' := cSe (rcS (rcS (rmO g p i) (p + i) 0) (p + i) 1) sz c) (P := True) rfl trivial ?_
    refine gW_ic_ge (gdec_at D_Se_remove 19 rfl) (tgt := 52) rfl (fun cq => absurd cq (by decide)) (fun _ => ?_)
    refine gW_b D_Se_remove 20 8 (pc' := 40) (l' := [(0, .ref 0), (1, .int (nI p)), (2, .int (nI (p + i + 1))), (3, .int 2)]) (st' := [.int 2, .int (nI (p + i + 1)), .ref 0, .int 2, .int ((nI (p + i + 1)) - 1), .ref 0]) (h' := cSe (rcS (rcS (rmO g p i) (p + i) 0) (p + i) 1) sz c) (P := True) rfl trivial ?_
    refine gW_callV (m_valueOf (rcS (rcS (rmO g p i) (p + i) 0) (p + i) 1) sz c (p + i + 1) 2 (by omega) (by omega) (by omega)) lk_Se_26 [0, 1] (gdec_at D_Se_remove 28 rfl) (st := [.int 2, .int ((nI (p + i + 1)) - 1), .ref 0]) rfl rfl ⟨rfl, rfl⟩ (Nat.le_of_ble_eq_true rfl) rfl (by decide) rfl (Nat.le_of_ble_eq_true rfl) ⟨Nat.le_of_ble_eq_true rfl, Nat.le_of_ble_eq_true rfl⟩ ⟨Nat.le_of_ble_eq_true rfl, Nat.le_of_ble_eq_true rfl⟩ (gAft_r rfl rfl (h' := cSe (rcS (rcS (rmO g p i) (p + i) 0) (p + i) 1) sz c) (st' := [.int ((rcS (rcS (rmO g p i) (p + i) 0) (p + i) 1) ((p + i + 1) * 5 + 2)), .int 2, .int ((nI (p + i + 1)) - 1), .ref 0]) (pc' := 43) (cs' := 0) (ss' := 0) rfl rfl rfl rfl rfl ?_)
    rw [show ((nI (p + i + 1)) - 1 : Int32) = nI (p + i) from (gsub1 (rfl : nI (p + i + 1) = nI (p + i + 1)))]
    refine gW_callV (m_put (rcS (rcS (rmO g p i) (p + i) 0) (p + i) 1) sz c (p + i) 2 ((rcS (rcS (rmO g p i) (p + i) 0) (p + i) 1) ((p + i + 1) * 5 + 2)) (by omega) (by omega) (by omega)) lk_Se_30 [0, 1] (gdec_at D_Se_remove 29 rfl) (st := []) rfl rfl ⟨rfl, rfl⟩ (Nat.le_of_ble_eq_true rfl) rfl (by decide) rfl (Nat.le_of_ble_eq_true rfl) ⟨Nat.le_of_ble_eq_true rfl, Nat.le_of_ble_eq_true rfl⟩ ⟨Nat.le_of_ble_eq_true rfl, Nat.le_of_ble_eq_true rfl⟩ (gAft_r rfl rfl (h' := cSe (rcS (rcS (rcS (rmO g p i) (p + i) 0) (p + i) 1) (p + i) 2) sz c) (st' := []) (pc' := 46) (cs' := 0) (ss' := 0) rfl rfl rfl rfl rfl ?_)
    refine gW_b D_Se_remove 30 2 (pc' := 27) (l' := [(0, .ref 0), (1, .int (nI p)), (2, .int (nI (p + i + 1))), (3, .int 3)]) (st' := []) (h' := cSe (rcS (rcS (rcS (rmO g p i) (p + i) 0) (p + i) 1) (p + i) 2) sz c) (P := True) rfl trivial ?_
    refine gW_b D_Se_remove 17 2 (pc' := 29) (l' := [(0, .ref 0), (1, .int (nI p)), (2, .int (nI (p + i + 1))), (3, .int 3)]) (st' := [.int 5, .int 3]) (h' := cSe (rcS (rcS (rcS (rmO g p i) (p + i) 0) (p + i) 1) (p + i) 2) sz c) (P := True) rfl trivial ?_
    refine gW_ic_ge (gdec_at D_Se_remove 19 rfl) (tgt := 52) rfl (fun cq => absurd cq (by decide)) (fun _ => ?_)
    refine gW_b D_Se_remove 20 8 (pc' := 40) (l' := [(0, .ref 0), (1, .int (nI p)), (2, .int (nI (p + i + 1))), (3, .int 3)]) (st' := [.int 3, .int (nI (p + i + 1)), .ref 0, .int 3, .int ((nI (p + i + 1)) - 1), .ref 0]) (h' := cSe (rcS (rcS (rcS (rmO g p i) (p + i) 0) (p + i) 1) (p + i) 2) sz c) (P := True) rfl trivial ?_
    refine gW_callV (m_valueOf (rcS (rcS (rcS (rmO g p i) (p + i) 0) (p + i) 1) (p + i) 2) sz c (p + i + 1) 3 (by omega) (by omega) (by omega)) lk_Se_26 [0, 1] (gdec_at D_Se_remove 28 rfl) (st := [.int 3, .int ((nI (p + i + 1)) - 1), .ref 0]) rfl rfl ⟨rfl, rfl⟩ (Nat.le_of_ble_eq_true rfl) rfl (by decide) rfl (Nat.le_of_ble_eq_true rfl) ⟨Nat.le_of_ble_eq_true rfl, Nat.le_of_ble_eq_true rfl⟩ ⟨Nat.le_of_ble_eq_true rfl, Nat.le_of_ble_eq_true rfl⟩ (gAft_r rfl rfl (h' := cSe (rcS (rcS (rcS (rmO g p i) (p + i) 0) (p + i) 1) (p + i) 2) sz c) (st' := [.int ((rcS (rcS (rcS (rmO g p i) (p + i) 0) (p + i) 1) (p + i) 2) ((p + i + 1) * 5 + 3)), .int 3, .int ((nI (p + i + 1)) - 1), .ref 0]) (pc' := 43) (cs' := 0) (ss' := 0) rfl rfl rfl rfl rfl ?_)
    rw [show ((nI (p + i + 1)) - 1 : Int32) = nI (p + i) from (gsub1 (rfl : nI (p + i + 1) = nI (p + i + 1)))]
    refine gW_callV (m_put (rcS (rcS (rcS (rmO g p i) (p + i) 0) (p + i) 1) (p + i) 2) sz c (p + i) 3 ((rcS (rcS (rcS (rmO g p i) (p + i) 0) (p + i) 1) (p + i) 2) ((p + i + 1) * 5 + 3)) (by omega) (by omega) (by omega)) lk_Se_30 [0, 1] (gdec_at D_Se_remove 29 rfl) (st := []) rfl rfl ⟨rfl, rfl⟩ (Nat.le_of_ble_eq_true rfl) rfl (by decide) rfl (Nat.le_of_ble_eq_true rfl) ⟨Nat.le_of_ble_eq_true rfl, Nat.le_of_ble_eq_true rfl⟩ ⟨Nat.le_of_ble_eq_true rfl, Nat.le_of_ble_eq_true rfl⟩ (gAft_r rfl rfl (h' := cSe (rcS (rcS (rcS (rcS (rmO g p i) (p + i) 0) (p + i) 1) (p + i) 2) (p + i) 3) sz c) (st' := []) (pc' := 46) (cs' := 0) (ss' := 0) rfl rfl rfl rfl rfl ?_)
    refine gW_b D_Se_remove 30 2 (pc' := 27) (l' := [(0, .ref 0), (1, .int (nI p)), (2, .int (nI (p + i + 1))), (3, .int 4)]) (st' := []) (h' := cSe (rcS (rcS (rcS (rcS (rmO g p i) (p + i) 0) (p + i) 1) (p + i) 2) (p + i) 3) sz c) (P := True) rfl trivial ?_
    refine gW_b D_Se_remove 17 2 (pc' := 29) (l' := [(0, .ref 0), (1, .int (nI p)), (2, .int (nI (p + i + 1))), (3, .int 4)]) (st' := [.int 5, .int 4]) (h' := cSe (rcS (rcS (rcS (rcS (rmO g p i) (p + i) 0) (p + i) 1) (p + i) 2) (p + i) 3) sz c) (P := True) rfl trivial ?_
    refine gW_ic_ge (gdec_at D_Se_remove 19 rfl) (tgt := 52) rfl (fun cq => absurd cq (by decide)) (fun _ => ?_)
    refine gW_b D_Se_remove 20 8 (pc' := 40) (l' := [(0, .ref 0), (1, .int (nI p)), (2, .int (nI (p + i + 1))), (3, .int 4)]) (st' := [.int 4, .int (nI (p + i + 1)), .ref 0, .int 4, .int ((nI (p + i + 1)) - 1), .ref 0]) (h' := cSe (rcS (rcS (rcS (rcS (rmO g p i) (p + i) 0) (p + i) 1) (p + i) 2) (p + i) 3) sz c) (P := True) rfl trivial ?_
    refine gW_callV (m_valueOf (rcS (rcS (rcS (rcS (rmO g p i) (p + i) 0) (p + i) 1) (p + i) 2) (p + i) 3) sz c (p + i + 1) 4 (by omega) (by omega) (by omega)) lk_Se_26 [0, 1] (gdec_at D_Se_remove 28 rfl) (st := [.int 4, .int ((nI (p + i + 1)) - 1), .ref 0]) rfl rfl ⟨rfl, rfl⟩ (Nat.le_of_ble_eq_true rfl) rfl (by decide) rfl (Nat.le_of_ble_eq_true rfl) ⟨Nat.le_of_ble_eq_true rfl, Nat.le_of_ble_eq_true rfl⟩ ⟨Nat.le_of_ble_eq_true rfl, Nat.le_of_ble_eq_true rfl⟩ (gAft_r rfl rfl (h' := cSe (rcS (rcS (rcS (rcS (rmO g p i) (p + i) 0) (p + i) 1) (p + i) 2) (p + i) 3) sz c) (st' := [.int ((rcS (rcS (rcS (rcS (rmO g p i) (p + i) 0) (p + i) 1) (p + i) 2) (p + i) 3) ((p + i + 1) * 5 + 4)), .int 4, .int ((nI (p + i + 1)) - 1), .ref 0]) (pc' := 43) (cs' := 0) (ss' := 0) rfl rfl rfl rfl rfl ?_)
    rw [show ((nI (p + i + 1)) - 1 : Int32) = nI (p + i) from (gsub1 (rfl : nI (p + i + 1) = nI (p + i + 1)))]
    refine gW_callV (m_put (rcS (rcS (rcS (rcS (rmO g p i) (p + i) 0) (p + i) 1) (p + i) 2) (p + i) 3) sz c (p + i) 4 ((rcS (rcS (rcS (rcS (rmO g p i) (p + i) 0) (p + i) 1) (p + i) 2) (p + i) 3) ((p + i + 1) * 5 + 4)) (by omega) (by omega) (by omega)) lk_Se_30 [0, 1] (gdec_at D_Se_remove 29 rfl) (st := []) rfl rfl ⟨rfl, rfl⟩ (Nat.le_of_ble_eq_true rfl) rfl (by decide) rfl (Nat.le_of_ble_eq_true rfl) ⟨Nat.le_of_ble_eq_true rfl, Nat.le_of_ble_eq_true rfl⟩ ⟨Nat.le_of_ble_eq_true rfl, Nat.le_of_ble_eq_true rfl⟩ (gAft_r rfl rfl (h' := cSe (rmO g p (i + 1)) sz c) (st' := []) (pc' := 46) (cs' := 0) (ss' := 0) rfl rfl rfl rfl rfl ?_)
    refine gW_b D_Se_remove 30 2 (pc' := 27) (l' := [(0, .ref 0), (1, .int (nI p)), (2, .int (nI (p + i + 1))), (3, .int 5)]) (st' := []) (h' := cSe (rmO g p (i + 1)) sz c) (P := True) rfl trivial ?_
    refine gW_b D_Se_remove 17 2 (pc' := 29) (l' := [(0, .ref 0), (1, .int (nI p)), (2, .int (nI (p + i + 1))), (3, .int 5)]) (st' := [.int 5, .int 5]) (h' := cSe (rmO g p (i + 1)) sz c) (P := True) rfl trivial ?_
    refine gW_ic_ge (gdec_at D_Se_remove 19 rfl) (tgt := 52) rfl (fun _ => ?_) (fun cq => absurd (by decide) cq)
    refine gW_l [0, 1, 2] (l' := [(0, .ref 0), (1, .int (nI p)), (2, .int (nI (p + i + 1)))]) rfl ?_
    refine gW_b D_Se_remove 32 2 (pc' := 17) (l' := [(0, .ref 0), (1, .int (nI p)), (2, .int ((nI (p + i + 1)) + 1))]) (st' := []) (h' := cSe (rmO g p (i + 1)) sz c) (P := True) rfl trivial ?_
    rw [show ((nI (p + i + 1)) + 1 : Int32) = nI (p + (i + 1) + 1) from (gadd (rfl : nI (p + i + 1) = nI (p + i + 1)) (gk 1))]
    exact ih (i + 1) (by omega)
theorem m_remove (g : Nat → Int32) (sz : Nat) (c : Int32) (p : Nat) (hs : sz ≤ 10) (hp : p < sz) : gM K_Se_remove { frames := 1, locals := 23, cells := 0, slots := 0 } [.ref 0, .int (nI p)] (cSe g sz c) (gD (.inl none) (cSe (rmO g p (sz - 1 - p)) (sz - 1) c)) := by
  refine gM_of rfl rfl (Nat.le_of_ble_eq_true rfl) (fun sc => ?_)
  refine gW_b D_Se_remove 0 1 (pc' := 1) (l' := [(0, .ref 0), (1, .int (nI p))]) (st' := [.int (nI p)]) (h' := cSe g sz c) (P := True) rfl trivial ?_
  refine gW_if_lt (gdec_at D_Se_remove 1 rfl) (tgt := 12) rfl (fun cq => absurd cq (nI_pos (n := p) (by omega))) (fun _ => ?_)
  refine gW_b D_Se_remove 2 3 (pc' := 9) (l' := [(0, .ref 0), (1, .int (nI p))]) (st' := [.int (nI sz), .int (nI p)]) (h' := cSe g sz c) (P := True) rfl trivial ?_
  refine gW_ic_lt (gdec_at D_Se_remove 5 rfl) (tgt := 13) rfl (fun _ => ?_) (fun cq => absurd ((glt (rfl : nI p = nI p) (rfl : nI sz = nI sz) (by omega) (by omega)).mpr (by omega)) cq)
  refine gW_b D_Se_remove 7 4 (pc' := 17) (l' := [(0, .ref 0), (1, .int (nI p)), (2, .int ((nI p) + 1))]) (st' := []) (h' := cSe g sz c) (P := True) rfl trivial ?_
  rw [show ((nI p) + 1 : Int32) = nI (p + 1) from (gadd (rfl : nI p = nI p) (gk 1))]
  refine l_remove g sz c p hs hp ?_ (sz - 1 - p) 0 (Nat.zero_add _)
  refine gW_b D_Se_remove 34 6 (pc' := 68) (l' := [(0, .ref 0), (1, .int (nI p)), (2, .int (nI (p + (sz - 1 - p) + 1)))]) (st' := []) (h' := [cO 1 [.ref 1, .int ((nI sz) - 1), .int c], cI 50 (rmO g p (sz - 1 - p))]) (P := True) rfl trivial ?_
  exact gW_vret (gdec_at D_Se_remove 40 rfl) rfl (Nat.le_of_ble_eq_true rfl) ⟨rfl, by rw [show nI sz - 1 = nI (sz - 1) from gsub rfl (gk 1) (by omega)]⟩ (Nat.le_of_ble_eq_true rfl) (Nat.le_of_ble_eq_true rfl)
def inn (k : Nat) : Nat → (Nat → Int32) → Nat → Int32
  | 0, g => g
  | p + 1, g => if cb k g (p + 1) p = true then inn k p (swapF g (p + 1) p) else g
def arrO (k : Nat) (g : Nat → Int32) : Nat → Nat → Int32
  | 0 => g
  | s + 1 => inn k (s + 1) (arrO k g s)
def keyOf (o : Int32) : Nat := if o = 0 then 3 else 2
theorem keyOf_lt (o : Int32) : keyOf o < 5 := by
  unfold keyOf
  split <;> decide
theorem l_arrange_in (sz : Nat) (c o : Int32) (k s : Nat) (hs : sz ≤ 10) (hk : k < 5) {sc : Nat × (Nat → Int32)} {n0 : Nat} {E : gO → gH → Prop} : ∀ (p : Nat) (g : Nat → Int32), p < sz → gW K_Se_arrange sc { frames := 2, locals := 48, cells := 0, slots := 0 } n0 E 0 0 58 [(0, .ref 0), (1, .int o), (2, .int (nI k)), (3, .int (nI s))] [] (cSe (inn k p g) sz c) → gW K_Se_arrange sc { frames := 2, locals := 48, cells := 0, slots := 0 } n0 E 0 0 23 [(0, .ref 0), (1, .int o), (2, .int (nI k)), (3, .int (nI s)), (4, .int (nI p))] [] (cSe g sz c) := by
  intro p
  induction p with
  | zero =>
    intro g hp kk
    refine gW_b D_Se_arrange 14 1 (pc' := 25) (l' := [(0, .ref 0), (1, .int o), (2, .int (nI k)), (3, .int (nI s)), (4, .int (nI 0))]) (st' := [.int (nI 0)]) (h' := cSe g sz c) (P := True) rfl trivial ?_
    refine gW_if_le (gdec_at D_Se_arrange 15 rfl) (tgt := 58) rfl (fun _ => ?_) (fun cq => absurd ((gle (rfl : nI 0 = nI 0) (gk 0) (by omega) (by omega)).mpr (by omega)) cq)
    refine gW_l [0, 1, 2, 3] (l' := [(0, .ref 0), (1, .int o), (2, .int (nI k)), (3, .int (nI s))]) rfl ?_
    exact kk
  | succ p ih =>
    intro g hp kk
    refine gW_b D_Se_arrange 14 1 (pc' := 25) (l' := [(0, .ref 0), (1, .int o), (2, .int (nI k)), (3, .int (nI s)), (4, .int (nI (p + 1)))]) (st' := [.int (nI (p + 1))]) (h' := cSe g sz c) (P := True) rfl trivial ?_
    refine gW_if_le (gdec_at D_Se_arrange 15 rfl) (tgt := 58) rfl (fun cq => absurd cq (mt (gle (rfl : nI (p + 1) = nI (p + 1)) (gk 0) (by omega) (by omega)).mp (by omega))) (fun _ => ?_)
    refine gW_b D_Se_arrange 16 6 (pc' := 36) (l' := [(0, .ref 0), (1, .int o), (2, .int (nI k)), (3, .int (nI s)), (4, .int (nI (p + 1)))]) (st' := [.int (nI k), .int ((nI (p + 1)) - 1), .int (nI (p + 1)), .ref 0]) (h' := cSe g sz c) (P := True) rfl trivial ?_
    rw [show ((nI (p + 1)) - 1 : Int32) = nI p from (gsub1 (rfl : nI (p + 1) = nI (p + 1)))]
    refine gW_callV (m_comesBefore g sz c (p + 1) p k (by omega) (by omega) (by omega) (by omega)) lk_Se_34 [0, 1] (gdec_at D_Se_arrange 22 rfl) (st := []) rfl rfl ⟨rfl, rfl⟩ (Nat.le_of_ble_eq_true rfl) rfl (by decide) rfl (Nat.le_of_ble_eq_true rfl) ⟨Nat.le_of_ble_eq_true rfl, Nat.le_of_ble_eq_true rfl⟩ ⟨Nat.le_of_ble_eq_true rfl, Nat.le_of_ble_eq_true rfl⟩ (gAft_r rfl rfl (h' := cSe g sz c) (st' := [.int (bI (cb k g (p + 1) p))]) (pc' := 39) (cs' := 0) (ss' := 0) rfl rfl rfl rfl rfl ?_)
    refine gW_if_eq (gdec_at D_Se_arrange 23 rfl) (tgt := 58) rfl (fun d => ?_) (fun d => ?_)
    · skip
      have d := bI_f d
      refine gW_l [0, 1, 2, 3] (l' := [(0, .ref 0), (1, .int o), (2, .int (nI k)), (3, .int (nI s))]) rfl ?_
      rw [show inn k (p + 1) g = g from if_neg (by rw [d]; decide)] at kk
      exact kk
    · skip
      have d := bI_t d
      refine gW_b D_Se_arrange 24 5 (pc' := 49) (l' := [(0, .ref 0), (1, .int o), (2, .int (nI k)), (3, .int (nI s)), (4, .int (nI (p + 1)))]) (st' := [.int ((nI (p + 1)) - 1), .int (nI (p + 1)), .ref 0]) (h' := cSe g sz c) (P := True) rfl trivial ?_
      rw [show ((nI (p + 1)) - 1 : Int32) = nI p from (gsub1 (rfl : nI (p + 1) = nI (p + 1)))]
      refine gW_callV (m_swap g sz c (p + 1) p (by omega) (by omega) (by omega)) lk_Se_38 [0, 1] (gdec_at D_Se_arrange 29 rfl) (st := []) rfl rfl ⟨rfl, rfl⟩ (Nat.le_of_ble_eq_true rfl) rfl (by decide) rfl (Nat.le_of_ble_eq_true rfl) ⟨Nat.le_of_ble_eq_true rfl, Nat.le_of_ble_eq_true rfl⟩ ⟨Nat.le_of_ble_eq_true rfl, Nat.le_of_ble_eq_true rfl⟩ (gAft_r rfl rfl (h' := cSe (swapF g (p + 1) p) sz c) (st' := []) (pc' := 52) (cs' := 0) (ss' := 0) rfl rfl rfl rfl rfl ?_)
      refine gW_b D_Se_arrange 30 2 (pc' := 23) (l' := [(0, .ref 0), (1, .int o), (2, .int (nI k)), (3, .int (nI s)), (4, .int ((nI (p + 1)) + (-1)))]) (st' := []) (h' := cSe (swapF g (p + 1) p) sz c) (P := True) rfl trivial ?_
      rw [show ((nI (p + 1)) + (-1) : Int32) = nI p from (gpred (rfl : nI (p + 1) = nI (p + 1)))]
      rw [show inn k (p + 1) g = inn k p (swapF g (p + 1) p) from if_pos d] at kk
      exact ih _ (by omega) kk
theorem l_arrange (g : Nat → Int32) (sz : Nat) (c : Int32) (o : Int32) (k : Nat) (hs : sz ≤ 10) (hk : k < 5) {sc : Nat × (Nat → Int32)} {n0 : Nat} {E : gO → gH → Prop} (kk : gW K_Se_arrange sc { frames := 2, locals := 48, cells := 0, slots := 0 } n0 E 0 0 64 [(0, .ref 0), (1, .int o), (2, .int (nI k)), (3, .int (nI ((sz - 1) + 1)))] [] (cSe (arrO k g (sz - 1)) sz c)) : ∀ (n i : Nat), i + n = (sz - 1) → gW K_Se_arrange sc { frames := 2, locals := 48, cells := 0, slots := 0 } n0 E 0 0 12 [(0, .ref 0), (1, .int o), (2, .int (nI k)), (3, .int (nI (i + 1)))] [] (cSe (arrO k g i) sz c) := by
  intro n
  induction n with
  | zero =>
    intro i hi
    obtain rfl : (sz - 1) = i := by omega
    refine gW_b D_Se_arrange 8 3 (pc' := 17) (l' := [(0, .ref 0), (1, .int o), (2, .int (nI k)), (3, .int (nI ((sz - 1) + 1)))]) (st' := [.int (nI sz), .int (nI ((sz - 1) + 1))]) (h' := cSe (arrO k g (sz - 1)) sz c) (P := True) rfl trivial ?_
    refine gW_ic_ge (gdec_at D_Se_arrange 11 rfl) (tgt := 64) rfl (fun _ => ?_) (fun cq => absurd ((gle (rfl : nI sz = nI sz) (rfl : nI ((sz - 1) + 1) = nI ((sz - 1) + 1)) (by omega) (by omega)).mpr (by omega)) cq)
    exact kk
  | succ n ih =>
    intro i hi
    refine gW_b D_Se_arrange 8 3 (pc' := 17) (l' := [(0, .ref 0), (1, .int o), (2, .int (nI k)), (3, .int (nI (i + 1)))]) (st' := [.int (nI sz), .int (nI (i + 1))]) (h' := cSe (arrO k g i) sz c) (P := True) rfl trivial ?_
    refine gW_ic_ge (gdec_at D_Se_arrange 11 rfl) (tgt := 64) rfl (fun cq => absurd cq (mt (gle (rfl : nI sz = nI sz) (rfl : nI (i + 1) = nI (i + 1)) (by omega) (by omega)).mp (by omega))) (fun _ => ?_)
    refine gW_b D_Se_arrange 12 2 (pc' := 23) (l' := [(0, .ref 0), (1, .int o), (2, .int (nI k)), (3, .int (nI (i + 1))), (4, .int (nI (i + 1)))]) (st' := []) (h' := cSe (arrO k g i) sz c) (P := True) rfl trivial ?_
    refine l_arrange_in sz c o k (i + 1) hs hk (i + 1) (arrO k g i) (by omega) ?_
    refine gW_b D_Se_arrange 32 2 (pc' := 12) (l' := [(0, .ref 0), (1, .int o), (2, .int (nI k)), (3, .int ((nI (i + 1)) + 1))]) (st' := []) (h' := cSe (arrO k g (i + 1)) sz c) (P := True) rfl trivial ?_
    rw [show ((nI (i + 1)) + 1 : Int32) = nI ((i + 1) + 1) from (gadd (rfl : nI (i + 1) = nI (i + 1)) (gk 1))]
    exact ih (i + 1) (by omega)
theorem m_arrange (g : Nat → Int32) (sz : Nat) (c : Int32) (o : Int32) (hs : sz ≤ 10) : gM K_Se_arrange { frames := 2, locals := 48, cells := 0, slots := 0 } [.ref 0, .int o] (cSe g sz c) (gD (.inl none) (cSe (arrO (keyOf o) g (sz - 1)) sz c)) := by
  refine gM_of rfl rfl (Nat.le_of_ble_eq_true rfl) (fun sc => ?_)
  refine gW_b D_Se_arrange 0 1 (pc' := 1) (l' := [(0, .ref 0), (1, .int o)]) (st' := [.int o]) (h' := cSe g sz c) (P := True) rfl trivial ?_
  refine gW_if_ne (gdec_at D_Se_arrange 1 rfl) (tgt := 8) rfl (fun d => ?_) (fun d => ?_)
  · skip
    refine gW_b D_Se_arrange 4 4 (pc' := 12) (l' := [(0, .ref 0), (1, .int o), (2, .int 2), (3, .int 1)]) (st' := []) (h' := cSe g sz c) (P := True) rfl trivial ?_
    rw [show keyOf o = 2 from if_neg d]
    refine l_arrange g sz c o 2 hs (by decide) ?_ (sz - 1) 0 (Nat.zero_add _)
    exact gW_vret (gdec_at D_Se_arrange 34 rfl) rfl (Nat.le_of_ble_eq_true rfl) ⟨rfl, rfl⟩ (Nat.le_of_ble_eq_true rfl) (Nat.le_of_ble_eq_true rfl)
  · skip
    refine gW_b D_Se_arrange 2 2 (pc' := 9) (l' := [(0, .ref 0), (1, .int o)]) (st' := [.int 3]) (h' := cSe g sz c) (P := True) rfl trivial ?_
    refine gW_b D_Se_arrange 5 3 (pc' := 12) (l' := [(0, .ref 0), (1, .int o), (2, .int 3), (3, .int 1)]) (st' := []) (h' := cSe g sz c) (P := True) rfl trivial ?_
    rw [show keyOf o = 3 from if_pos d]
    refine l_arrange g sz c o 3 hs (by decide) ?_ (sz - 1) 0 (Nat.zero_add _)
    exact gW_vret (gdec_at D_Se_arrange 34 rfl) rfl (Nat.le_of_ble_eq_true rfl) ⟨rfl, rfl⟩ (Nat.le_of_ble_eq_true rfl) (Nat.le_of_ble_eq_true rfl)

theorem m_SecopyFrom (g g2 : Nat → Int32) (sz sz2 : Nat) (c c2 : Int32) : gM K_Se_copyFrom { frames := 2, locals := 61, cells := 0, slots := 0 } [.ref 0, .ref 2] ([cO 1 [.ref 1, .int (nI sz2), .int c2], cI 50 g2, cO 1 [.ref 3, .int (nI sz), .int c], cI 50 g]) (gD (.inl none) ([cO 1 [.ref 1, .int (nI sz), .int c], cI 50 g, cO 1 [.ref 3, .int (nI sz), .int c], cI 50 g])) := by
  refine gM_of rfl rfl (Nat.le_of_ble_eq_true rfl) (fun sc => ?_)
  refine gW_b D_Se_copyFrom 0 4 (pc' := 8) (l' := [(0, .ref 0), (1, .ref 2)]) (st' := [.ref 1, .ref 3]) (h' := [cO 1 [.ref 1, .int (nI sz2), .int c2], cI 50 g2, cO 1 [.ref 3, .int (nI sz), .int c], cI 50 g]) (P := True) rfl trivial ?_
  refine gW_callS (m_copyRow 50 g g2 (by omega)) lk_Se_15 [3, 1] (gdec_at D_Se_copyFrom 4 rfl) (st := []) rfl rfl ⟨rfl, rfl⟩ (Nat.le_of_ble_eq_true rfl) (Nat.le_of_ble_eq_true rfl) ⟨Nat.le_of_ble_eq_true rfl, Nat.le_of_ble_eq_true rfl⟩ ⟨Nat.le_of_ble_eq_true rfl, Nat.le_of_ble_eq_true rfl⟩ (gAft_r rfl rfl (h' := [cO 1 [.ref 1, .int (nI sz2), .int c2], cI 50 g, cO 1 [.ref 3, .int (nI sz), .int c], cI 50 g]) (st' := []) (pc' := 11) (cs' := 0) (ss' := 0) rfl rfl rfl rfl rfl ?_)
  refine gW_b D_Se_copyFrom 5 8 (pc' := 27) (l' := [(0, .ref 0), (1, .ref 2)]) (st' := []) (h' := [cO 1 [.ref 1, .int (nI sz), .int c], cI 50 g, cO 1 [.ref 3, .int (nI sz), .int c], cI 50 g]) (P := True) rfl trivial ?_
  exact gW_vret (gdec_at D_Se_copyFrom 13 rfl) rfl (Nat.le_of_ble_eq_true rfl) ⟨rfl, rfl⟩ (Nat.le_of_ble_eq_true rfl) (Nat.le_of_ble_eq_true rfl)
