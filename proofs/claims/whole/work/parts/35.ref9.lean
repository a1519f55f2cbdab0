/-! THE REFERENCE's methods: what would be. Printed by wip/whole/meths21.py -/
theorem n_workC (M : gMo) (hok : rOK (mD M)) (ho : odOK (mOd M)) : gM K_Mo_work { frames := 5, locals := 117, cells := 0, slots := 0 } [.ref 0] (cMo M) (gXo (some (.int (cwL (mD M)))) (wD M (cwD (mD M)))) := by
  refine gM_wk (fun o h' hx => ?_) (n_work M hok ho)
  obtain ⟨h1, h2⟩ := hx
  subst h1
  subst h2
  exact ⟨rwO (mD M) (mOd M), (rwC (mD M) (mOd M)).2.2, odOK_O hok ho, by rw [rwV_od], by rw [rwD_od]⟩
theorem n_daysC (M : gMo) (d : Nat) (hok : rOK (mD M)) (ho : odOK (mOd M)) (hd : d ≤ 60) : gM K_Mo_days { frames := 6, locals := 139, cells := 0, slots := 0 } [.ref 0, .int (nI d)] (cMo M) (gXo (some (.int (dyC (mD M) d).2)) (wD M (dyC (mD M) d).1)) := by
  refine gM_wk (fun o h' hx => ?_) (n_days M d hok ho hd)
  obtain ⟨h1, h2⟩ := hx
  subst h1
  subst h2
  obtain ⟨e1, e2⟩ := dyR_C (mD M) (mOd M) (mSt M) d
  obtain ⟨-, e3, -⟩ := dyR_ok (st := mSt M) hok ho d
  exact ⟨_, _, e3, by rw [e2], by rw [e1]⟩
/-- the value of a section's property, by the order -/
def sVr (D : gDom) (p k : Nat) : Int32 := if k = 5 then bI (decide (dG D (ord D p * 5 + 3) < dDy D)) else dG D (ord D p * 5 + k)
theorem n_toldC (M : gMo) (hok : rOK (mD M)) (ho : odOK (mOd M)) (p k : Nat) (hp : p < dSz (mD M)) (hk : k < 6) : gM K_Mo_toldSection { frames := 3, locals := 67, cells := 0, slots := 0 } [.ref 0, .int (nI p), .int (nI k)] (cMo M) (gXo (some (.int (sVr (mD M) p k))) M) := by
  by_cases h5 : k = 5
  · subst h5
    refine gM_wk (fun o h' hx => ?_) (n_told5 M hok ho p hp)
    obtain ⟨h1, h2⟩ := hx
    subst h1
    subst h2
    exact ⟨rwO (mD M) (mOd M), mSt M, odOK_O hok ho, by rw [rwO_od _ _ hp]; rfl, rfl⟩
  · refine gM_wk (fun o h' hx => ?_) (n_told M hok ho p k hp (by omega))
    obtain ⟨h1, h2⟩ := hx
    subst h1
    subst h2
    exact ⟨rwO (mD M) (mOd M), mSt M, odOK_O hok ho, by rw [rwO_od _ _ hp, show sVr (mD M) p k = _ from if_neg h5], rfl⟩
def s2D (D : gDom) (v : Int32) : gDom := (dTr D, dG D, dSz D, dC D, upd (dSt D) 2 v, D.2.2.2.2.2)
theorem rOK_2 {D : gDom} (h : rOK D) (v : Int32) : rOK (s2D D v) := h
theorem u2_back (f : Nat → Int32) (a b : Int32) : upd (upd (upd f 2 a) 2 b) 2 (f 2) = f := by
  funext j
  unfold upd
  by_cases h : j = 2
  · rw [if_pos h, h]
  · rw [if_neg h, if_neg h, if_neg h]
def dtC (x : Int32) : Nat → Nat → gDom → Int32
  | 0, _, _ => -1
  | n + 1, day, D => if plL (dG (cwD D)) x (dSz (cwD D)) = -1 then nI day else dtC x n (day + 1) (cwD D)
theorem n_wouldPass_0 (M : gMo) (hok : rOK (mD M)) (ho : odOK (mOd M)) (d : Nat) (hd : d ≤ 60) : gM K_Mo_wouldPass { frames := 7, locals := 162, cells := 0, slots := 0 } [.ref 0, .int (nI d), .int 0] (cMo M) (gXs (some (.int ((dyC (mD M) d).2))) (M)) := by
  refine gM_of rfl rfl (Nat.le_of_ble_eq_true rfl) (fun sc => ?_)
  refine gW_b D_Mo_wouldPass 0 1 (pc' := 1) (l' := [(0, .ref 0), (1, .int (nI d)), (2, .int 0)]) (st' := [.ref 0]) (h' := cMo M) (P := True) rfl trivial ?_
  refine gW_callV (n_putAside M  ) lk_Mo_179 [0, 1, 2, 3, 4, 5, 6] (gdec_at D_Mo_wouldPass 1 rfl) (st := []) rfl rfl ⟨rfl, rfl⟩ (Nat.le_of_ble_eq_true rfl) rfl (by decide) rfl (Nat.le_of_ble_eq_true rfl) ⟨Nat.le_of_ble_eq_true rfl, Nat.le_of_ble_eq_true rfl⟩ ⟨Nat.le_of_ble_eq_true rfl, Nat.le_of_ble_eq_true rfl⟩ (gAft_r rfl rfl (h' := cMo (wSp M (mD M))) (st' := []) (pc' := 4) (cs' := 0) (ss' := 0) rfl rfl rfl rfl rfl ?_)
  refine gW_b D_Mo_wouldPass 2 2 (pc' := 6) (l' := [(0, .ref 0), (1, .int (nI d)), (2, .int 0)]) (st' := [.int (nI d), .ref 0]) (h' := cMo (wSp M (mD M))) (P := True) rfl trivial ?_
  refine gW_callV (n_daysC (wSp M (mD M)) d hok ho hd) lk_Mo_126 [0, 1, 2, 3, 4, 5, 6] (gdec_at D_Mo_wouldPass 4 rfl) (st := []) rfl rfl ⟨rfl, rfl⟩ (Nat.le_of_ble_eq_true rfl) rfl (by decide) rfl (Nat.le_of_ble_eq_true rfl) ⟨Nat.le_of_ble_eq_true rfl, Nat.le_of_ble_eq_true rfl⟩ ⟨Nat.le_of_ble_eq_true rfl, Nat.le_of_ble_eq_true rfl⟩ (gAft_o rfl rfl (st' := [.int ((dyC (mD M) d).2)]) (pc' := 9) (cs' := 0) (ss' := 0) rfl rfl rfl rfl (fun od1 st1 ho1 => ?_))
  refine gW_b D_Mo_wouldPass 5 2 (pc' := 11) (l' := [(0, .ref 0), (1, .int (nI d)), (2, .int 0), (3, .int ((dyC (mD M) d).2))]) (st' := [.int 0]) (h' := cMo (wSt (wOd (wSp (wD M ((dyC (mD M) d).1)) (mD M)) od1) st1)) (P := True) rfl trivial ?_
  refine gW_if_ne (gdec_at D_Mo_wouldPass 7 rfl) (tgt := 18) rfl (fun cq => absurd (by decide) cq) (fun _ => ?_)
  refine gW_b D_Mo_wouldPass 8 2 (pc' := 70) (l' := [(0, .ref 0), (1, .int (nI d)), (2, .int 0), (3, .int ((dyC (mD M) d).2))]) (st' := [.int ((dyC (mD M) d).2)]) (h' := cMo (wSt (wOd (wSp (wD M ((dyC (mD M) d).1)) (mD M)) od1) st1)) (P := True) rfl trivial ?_
  refine gW_b D_Mo_wouldPass 39 2 (pc' := 73) (l' := [(0, .ref 0), (1, .int (nI d)), (2, .int 0), (3, .int ((dyC (mD M) d).2)), (4, .int ((dyC (mD M) d).2))]) (st' := [.ref 0]) (h' := cMo (wSt (wOd (wSp (wD M ((dyC (mD M) d).1)) (mD M)) od1) st1)) (P := True) rfl trivial ?_
  refine gW_callV (n_bringBack (wSt (wOd (wSp (wD M ((dyC (mD M) d).1)) (mD M)) od1) st1)  ) lk_Mo_182 [0, 1, 2, 3, 4, 5, 6] (gdec_at D_Mo_wouldPass 41 rfl) (st := []) rfl rfl ⟨rfl, rfl⟩ (Nat.le_of_ble_eq_true rfl) rfl (by decide) rfl (Nat.le_of_ble_eq_true rfl) ⟨Nat.le_of_ble_eq_true rfl, Nat.le_of_ble_eq_true rfl⟩ ⟨Nat.le_of_ble_eq_true rfl, Nat.le_of_ble_eq_true rfl⟩ (gAft_r rfl rfl (h' := cMo (wSt (wOd (wSp M (mD M)) od1) st1)) (st' := []) (pc' := 76) (cs' := 0) (ss' := 0) rfl rfl rfl rfl rfl ?_)
  refine gW_b D_Mo_wouldPass 42 2 (pc' := 78) (l' := [(0, .ref 0), (1, .int (nI d)), (2, .int 0), (3, .int ((dyC (mD M) d).2)), (4, .int ((dyC (mD M) d).2))]) (st' := [.int 3, .int 0]) (h' := cMo (wSt (wOd (wSp M (mD M)) od1) st1)) (P := True) rfl trivial ?_
  refine gW_ic_ne (gdec_at D_Mo_wouldPass 44 rfl) (tgt := 93) rfl (fun _ => ?_) (fun cq => absurd cq (by decide))
  refine gW_b D_Mo_wouldPass 51 1 (pc' := 95) (l' := [(0, .ref 0), (1, .int (nI d)), (2, .int 0), (3, .int ((dyC (mD M) d).2)), (4, .int ((dyC (mD M) d).2))]) (st' := [.int ((dyC (mD M) d).2)]) (h' := cMo (wSt (wOd (wSp M (mD M)) od1) st1)) (P := True) rfl trivial ?_
  exact gW_iret (gdec_at D_Mo_wouldPass 52 rfl) rfl rfl (Nat.le_of_ble_eq_true rfl) ⟨od1, st1, (mD M), ho1, rfl, rfl⟩ (Nat.le_of_ble_eq_true rfl) (Nat.le_of_ble_eq_true rfl)
theorem n_ifPassed_0 (M : gMo) (hok : rOK (mD M)) (ho : odOK (mOd M)) (d : Nat) (h1 : 1 ≤ d) (hd : d ≤ 60) : gM K_Mo_ifPassed { frames := 8, locals := 186, cells := 0, slots := 0 } [.ref 0, .int (nI d), .int 0] (cMo M) (gXs (some (.int ((dyC (mD M) d).2))) (wTh M 0)) := by
  refine gM_of rfl rfl (Nat.le_of_ble_eq_true rfl) (fun sc => ?_)
  refine gW_b D_Mo_ifPassed 0 4 (pc' := 5) (l' := [(0, .ref 0), (1, .int (nI d)), (2, .int 0)]) (st' := [.int 60, .int 1, .int (nI d), .ref 0]) (h' := cMo M) (P := True) rfl trivial ?_
  refine gW_callS (n_in_t (nI d) 1 60 (mt (glt (rfl : nI d = nI d) (gk 1) (by omega) (by omega)).mp (by omega)) (mt (glt (gk 60) (rfl : nI d = nI d) (by omega) (by omega)).mp (by omega))) lk_Mo_32 [] (gdec_at D_Mo_ifPassed 4 rfl) (st := [.ref 0]) rfl rfl ⟨rfl, rfl⟩ (Nat.le_of_ble_eq_true rfl) (Nat.le_of_ble_eq_true rfl) ⟨Nat.le_of_ble_eq_true rfl, Nat.le_of_ble_eq_true rfl⟩ ⟨Nat.le_of_ble_eq_true rfl, Nat.le_of_ble_eq_true rfl⟩ (gAft_r rfl rfl (h' := cMo M) (st' := [.int 1, .ref 0]) (pc' := 8) (cs' := 0) (ss' := 0) rfl rfl rfl rfl rfl ?_)
  refine gW_if_eq (gdec_at D_Mo_ifPassed 5 rfl) (tgt := 24) rfl (fun cq => absurd cq (by decide)) (fun _ => ?_)
  refine gW_b D_Mo_ifPassed 6 3 (pc' := 14) (l' := [(0, .ref 0), (1, .int (nI d)), (2, .int 0)]) (st' := [.int 3, .int 0, .int 0, .ref 0]) (h' := cMo M) (P := True) rfl trivial ?_
  refine gW_callS (n_in_t 0 0 3 (by decide) (by decide)) lk_Mo_32 [] (gdec_at D_Mo_ifPassed 9 rfl) (st := [.ref 0]) rfl rfl ⟨rfl, rfl⟩ (Nat.le_of_ble_eq_true rfl) (Nat.le_of_ble_eq_true rfl) ⟨Nat.le_of_ble_eq_true rfl, Nat.le_of_ble_eq_true rfl⟩ ⟨Nat.le_of_ble_eq_true rfl, Nat.le_of_ble_eq_true rfl⟩ (gAft_r rfl rfl (h' := cMo M) (st' := [.int 1, .ref 0]) (pc' := 17) (cs' := 0) (ss' := 0) rfl rfl rfl rfl rfl ?_)
  refine gW_if_eq (gdec_at D_Mo_ifPassed 10 rfl) (tgt := 24) rfl (fun cq => absurd cq (by decide)) (fun _ => ?_)
  refine gW_b D_Mo_ifPassed 11 2 (pc' := 25) (l' := [(0, .ref 0), (1, .int (nI d)), (2, .int 0)]) (st' := [.int 0, .ref 0]) (h' := cMo M) (P := True) rfl trivial ?_
  refine gW_b D_Mo_ifPassed 14 3 (pc' := 32) (l' := [(0, .ref 0), (1, .int (nI d)), (2, .int 0)]) (st' := [.int 0]) (h' := cMo (wTh M 0)) (P := True) rfl trivial ?_
  refine gW_if_le (gdec_at D_Mo_ifPassed 17 rfl) (tgt := 39) rfl (fun _ => ?_) (fun cq => absurd (by decide) cq)
  refine gW_b D_Mo_ifPassed 20 3 (pc' := 42) (l' := [(0, .ref 0), (1, .int (nI d)), (2, .int 0)]) (st' := [.int 0, .int (nI d), .ref 0]) (h' := cMo (wTh M 0)) (P := True) rfl trivial ?_
  refine gW_callV (n_wouldPass_0 (wTh M 0) hok ho d hd) lk_Mo_185 [0, 1, 2, 3, 4, 5, 6] (gdec_at D_Mo_ifPassed 23 rfl) (st := []) rfl rfl ⟨rfl, rfl⟩ (Nat.le_of_ble_eq_true rfl) rfl (by decide) rfl (Nat.le_of_ble_eq_true rfl) ⟨Nat.le_of_ble_eq_true rfl, Nat.le_of_ble_eq_true rfl⟩ ⟨Nat.le_of_ble_eq_true rfl, Nat.le_of_ble_eq_true rfl⟩ (gAft_e rfl rfl (st' := [.int ((dyC (mD M) d).2)]) (pc' := 45) (cs' := 0) (ss' := 0) rfl rfl rfl rfl (fun od2 st2 sp2 ho2 => ?_))
  exact gW_iret (gdec_at D_Mo_ifPassed 24 rfl) rfl rfl (Nat.le_of_ble_eq_true rfl) ⟨od2, st2, sp2, ho2, rfl, rfl⟩ (Nat.le_of_ble_eq_true rfl) (Nat.le_of_ble_eq_true rfl)
theorem n_wouldPass_1 (M : gMo) (hok : rOK (mD M)) (ho : odOK (mOd M)) (d : Nat) (hd : d ≤ 60) : gM K_Mo_wouldPass { frames := 7, locals := 162, cells := 0, slots := 0 } [.ref 0, .int (nI d), .int 1] (cMo M) (gXs (some (.int (dDn (dyC (mD M) d).1 - dDn (mD M)))) (M)) := by
  refine gM_of rfl rfl (Nat.le_of_ble_eq_true rfl) (fun sc => ?_)
  refine gW_b D_Mo_wouldPass 0 1 (pc' := 1) (l' := [(0, .ref 0), (1, .int (nI d)), (2, .int 1)]) (st' := [.ref 0]) (h' := cMo M) (P := True) rfl trivial ?_
  refine gW_callV (n_putAside M  ) lk_Mo_179 [0, 1, 2, 3, 4, 5, 6] (gdec_at D_Mo_wouldPass 1 rfl) (st := []) rfl rfl ⟨rfl, rfl⟩ (Nat.le_of_ble_eq_true rfl) rfl (by decide) rfl (Nat.le_of_ble_eq_true rfl) ⟨Nat.le_of_ble_eq_true rfl, Nat.le_of_ble_eq_true rfl⟩ ⟨Nat.le_of_ble_eq_true rfl, Nat.le_of_ble_eq_true rfl⟩ (gAft_r rfl rfl (h' := cMo (wSp M (mD M))) (st' := []) (pc' := 4) (cs' := 0) (ss' := 0) rfl rfl rfl rfl rfl ?_)
  refine gW_b D_Mo_wouldPass 2 2 (pc' := 6) (l' := [(0, .ref 0), (1, .int (nI d)), (2, .int 1)]) (st' := [.int (nI d), .ref 0]) (h' := cMo (wSp M (mD M))) (P := True) rfl trivial ?_
  refine gW_callV (n_daysC (wSp M (mD M)) d hok ho hd) lk_Mo_126 [0, 1, 2, 3, 4, 5, 6] (gdec_at D_Mo_wouldPass 4 rfl) (st := []) rfl rfl ⟨rfl, rfl⟩ (Nat.le_of_ble_eq_true rfl) rfl (by decide) rfl (Nat.le_of_ble_eq_true rfl) ⟨Nat.le_of_ble_eq_true rfl, Nat.le_of_ble_eq_true rfl⟩ ⟨Nat.le_of_ble_eq_true rfl, Nat.le_of_ble_eq_true rfl⟩ (gAft_o rfl rfl (st' := [.int ((dyC (mD M) d).2)]) (pc' := 9) (cs' := 0) (ss' := 0) rfl rfl rfl rfl (fun od3 st3 ho3 => ?_))
  refine gW_b D_Mo_wouldPass 5 2 (pc' := 11) (l' := [(0, .ref 0), (1, .int (nI d)), (2, .int 1), (3, .int ((dyC (mD M) d).2))]) (st' := [.int 1]) (h' := cMo (wSt (wOd (wSp (wD M ((dyC (mD M) d).1)) (mD M)) od3) st3)) (P := True) rfl trivial ?_
  refine gW_if_ne (gdec_at D_Mo_wouldPass 7 rfl) (tgt := 18) rfl (fun _ => ?_) (fun cq => absurd cq (by decide))
  refine gW_b D_Mo_wouldPass 10 2 (pc' := 20) (l' := [(0, .ref 0), (1, .int (nI d)), (2, .int 1), (3, .int ((dyC (mD M) d).2))]) (st' := [.int 1, .int 1]) (h' := cMo (wSt (wOd (wSp (wD M ((dyC (mD M) d).1)) (mD M)) od3) st3)) (P := True) rfl trivial ?_
  refine gW_ic_ne (gdec_at D_Mo_wouldPass 12 rfl) (tgt := 41) rfl (fun cq => absurd (by decide) cq) (fun _ => ?_)
  refine gW_b D_Mo_wouldPass 13 10 (pc' := 70) (l' := [(0, .ref 0), (1, .int (nI d)), (2, .int 1), (3, .int ((dyC (mD M) d).2))]) (st' := [.int ((dDn ((dyC (mD M) d).1)) - (dDn (mD M)))]) (h' := cMo (wSt (wOd (wSp (wD M ((dyC (mD M) d).1)) (mD M)) od3) st3)) (P := vp_in 35 103 ∧ vp_in 35 103 ∧ True) rfl ⟨(gvl 35 103 (by omega) (by omega)), (gvl 35 103 (by omega) (by omega)), trivial⟩ ?_
  refine gW_b D_Mo_wouldPass 39 2 (pc' := 73) (l' := [(0, .ref 0), (1, .int (nI d)), (2, .int 1), (3, .int ((dyC (mD M) d).2)), (4, .int ((dDn ((dyC (mD M) d).1)) - (dDn (mD M))))]) (st' := [.ref 0]) (h' := cMo (wSt (wOd (wSp (wD M ((dyC (mD M) d).1)) (mD M)) od3) st3)) (P := True) rfl trivial ?_
  refine gW_callV (n_bringBack (wSt (wOd (wSp (wD M ((dyC (mD M) d).1)) (mD M)) od3) st3)  ) lk_Mo_182 [0, 1, 2, 3, 4, 5, 6] (gdec_at D_Mo_wouldPass 41 rfl) (st := []) rfl rfl ⟨rfl, rfl⟩ (Nat.le_of_ble_eq_true rfl) rfl (by decide) rfl (Nat.le_of_ble_eq_true rfl) ⟨Nat.le_of_ble_eq_true rfl, Nat.le_of_ble_eq_true rfl⟩ ⟨Nat.le_of_ble_eq_true rfl, Nat.le_of_ble_eq_true rfl⟩ (gAft_r rfl rfl (h' := cMo (wSt (wOd (wSp M (mD M)) od3) st3)) (st' := []) (pc' := 76) (cs' := 0) (ss' := 0) rfl rfl rfl rfl rfl ?_)
  refine gW_b D_Mo_wouldPass 42 2 (pc' := 78) (l' := [(0, .ref 0), (1, .int (nI d)), (2, .int 1), (3, .int ((dyC (mD M) d).2)), (4, .int ((dDn ((dyC (mD M) d).1)) - (dDn (mD M))))]) (st' := [.int 3, .int 1]) (h' := cMo (wSt (wOd (wSp M (mD M)) od3) st3)) (P := True) rfl trivial ?_
  refine gW_ic_ne (gdec_at D_Mo_wouldPass 44 rfl) (tgt := 93) rfl (fun _ => ?_) (fun cq => absurd cq (by decide))
  refine gW_b D_Mo_wouldPass 51 1 (pc' := 95) (l' := [(0, .ref 0), (1, .int (nI d)), (2, .int 1), (3, .int ((dyC (mD M) d).2)), (4, .int ((dDn ((dyC (mD M) d).1)) - (dDn (mD M))))]) (st' := [.int ((dDn ((dyC (mD M) d).1)) - (dDn (mD M)))]) (h' := cMo (wSt (wOd (wSp M (mD M)) od3) st3)) (P := True) rfl trivial ?_
  exact gW_iret (gdec_at D_Mo_wouldPass 52 rfl) rfl rfl (Nat.le_of_ble_eq_true rfl) ⟨od3, st3, (mD M), ho3, rfl, rfl⟩ (Nat.le_of_ble_eq_true rfl) (Nat.le_of_ble_eq_true rfl)
theorem n_ifPassed_1 (M : gMo) (hok : rOK (mD M)) (ho : odOK (mOd M)) (d : Nat) (h1 : 1 ≤ d) (hd : d ≤ 60) : gM K_Mo_ifPassed { frames := 8, locals := 186, cells := 0, slots := 0 } [.ref 0, .int (nI d), .int 1] (cMo M) (gXs (some (.int (dDn (dyC (mD M) d).1 - dDn (mD M)))) (wTh M 0)) := by
  refine gM_of rfl rfl (Nat.le_of_ble_eq_true rfl) (fun sc => ?_)
  refine gW_b D_Mo_ifPassed 0 4 (pc' := 5) (l' := [(0, .ref 0), (1, .int (nI d)), (2, .int 1)]) (st' := [.int 60, .int 1, .int (nI d), .ref 0]) (h' := cMo M) (P := True) rfl trivial ?_
  refine gW_callS (n_in_t (nI d) 1 60 (mt (glt (rfl : nI d = nI d) (gk 1) (by omega) (by omega)).mp (by omega)) (mt (glt (gk 60) (rfl : nI d = nI d) (by omega) (by omega)).mp (by omega))) lk_Mo_32 [] (gdec_at D_Mo_ifPassed 4 rfl) (st := [.ref 0]) rfl rfl ⟨rfl, rfl⟩ (Nat.le_of_ble_eq_true rfl) (Nat.le_of_ble_eq_true rfl) ⟨Nat.le_of_ble_eq_true rfl, Nat.le_of_ble_eq_true rfl⟩ ⟨Nat.le_of_ble_eq_true rfl, Nat.le_of_ble_eq_true rfl⟩ (gAft_r rfl rfl (h' := cMo M) (st' := [.int 1, .ref 0]) (pc' := 8) (cs' := 0) (ss' := 0) rfl rfl rfl rfl rfl ?_)
  refine gW_if_eq (gdec_at D_Mo_ifPassed 5 rfl) (tgt := 24) rfl (fun cq => absurd cq (by decide)) (fun _ => ?_)
  refine gW_b D_Mo_ifPassed 6 3 (pc' := 14) (l' := [(0, .ref 0), (1, .int (nI d)), (2, .int 1)]) (st' := [.int 3, .int 0, .int 1, .ref 0]) (h' := cMo M) (P := True) rfl trivial ?_
  refine gW_callS (n_in_t 1 0 3 (by decide) (by decide)) lk_Mo_32 [] (gdec_at D_Mo_ifPassed 9 rfl) (st := [.ref 0]) rfl rfl ⟨rfl, rfl⟩ (Nat.le_of_ble_eq_true rfl) (Nat.le_of_ble_eq_true rfl) ⟨Nat.le_of_ble_eq_true rfl, Nat.le_of_ble_eq_true rfl⟩ ⟨Nat.le_of_ble_eq_true rfl, Nat.le_of_ble_eq_true rfl⟩ (gAft_r rfl rfl (h' := cMo M) (st' := [.int 1, .ref 0]) (pc' := 17) (cs' := 0) (ss' := 0) rfl rfl rfl rfl rfl ?_)
  refine gW_if_eq (gdec_at D_Mo_ifPassed 10 rfl) (tgt := 24) rfl (fun cq => absurd cq (by decide)) (fun _ => ?_)
  refine gW_b D_Mo_ifPassed 11 2 (pc' := 25) (l' := [(0, .ref 0), (1, .int (nI d)), (2, .int 1)]) (st' := [.int 0, .ref 0]) (h' := cMo M) (P := True) rfl trivial ?_
  refine gW_b D_Mo_ifPassed 14 3 (pc' := 32) (l' := [(0, .ref 0), (1, .int (nI d)), (2, .int 1)]) (st' := [.int 0]) (h' := cMo (wTh M 0)) (P := True) rfl trivial ?_
  refine gW_if_le (gdec_at D_Mo_ifPassed 17 rfl) (tgt := 39) rfl (fun _ => ?_) (fun cq => absurd (by decide) cq)
  refine gW_b D_Mo_ifPassed 20 3 (pc' := 42) (l' := [(0, .ref 0), (1, .int (nI d)), (2, .int 1)]) (st' := [.int 1, .int (nI d), .ref 0]) (h' := cMo (wTh M 0)) (P := True) rfl trivial ?_
  refine gW_callV (n_wouldPass_1 (wTh M 0) hok ho d hd) lk_Mo_185 [0, 1, 2, 3, 4, 5, 6] (gdec_at D_Mo_ifPassed 23 rfl) (st := []) rfl rfl ⟨rfl, rfl⟩ (Nat.le_of_ble_eq_true rfl) rfl (by decide) rfl (Nat.le_of_ble_eq_true rfl) ⟨Nat.le_of_ble_eq_true rfl, Nat.le_of_ble_eq_true rfl⟩ ⟨Nat.le_of_ble_eq_true rfl, Nat.le_of_ble_eq_true rfl⟩ (gAft_e rfl rfl (st' := [.int (dDn (dyC (mD M) d).1 - dDn (mD M))]) (pc' := 45) (cs' := 0) (ss' := 0) rfl rfl rfl rfl (fun od4 st4 sp4 ho4 => ?_))
  exact gW_iret (gdec_at D_Mo_ifPassed 24 rfl) rfl rfl (Nat.le_of_ble_eq_true rfl) ⟨od4, st4, sp4, ho4, rfl, rfl⟩ (Nat.le_of_ble_eq_true rfl) (Nat.le_of_ble_eq_true rfl)
theorem n_wouldPass_2 (M : gMo) (hok : rOK (mD M)) (ho : odOK (mOd M)) (d : Nat) (hd : d ≤ 60) : gM K_Mo_wouldPass { frames := 7, locals := 162, cells := 0, slots := 0 } [.ref 0, .int (nI d), .int 2] (cMo M) (gXs (some (.int (dLd (dyC (mD M) d).1 - dLd (mD M)))) (M)) := by
  refine gM_of rfl rfl (Nat.le_of_ble_eq_true rfl) (fun sc => ?_)
  refine gW_b D_Mo_wouldPass 0 1 (pc' := 1) (l' := [(0, .ref 0), (1, .int (nI d)), (2, .int 2)]) (st' := [.ref 0]) (h' := cMo M) (P := True) rfl trivial ?_
  refine gW_callV (n_putAside M  ) lk_Mo_179 [0, 1, 2, 3, 4, 5, 6] (gdec_at D_Mo_wouldPass 1 rfl) (st := []) rfl rfl ⟨rfl, rfl⟩ (Nat.le_of_ble_eq_true rfl) rfl (by decide) rfl (Nat.le_of_ble_eq_true rfl) ⟨Nat.le_of_ble_eq_true rfl, Nat.le_of_ble_eq_true rfl⟩ ⟨Nat.le_of_ble_eq_true rfl, Nat.le_of_ble_eq_true rfl⟩ (gAft_r rfl rfl (h' := cMo (wSp M (mD M))) (st' := []) (pc' := 4) (cs' := 0) (ss' := 0) rfl rfl rfl rfl rfl ?_)
  refine gW_b D_Mo_wouldPass 2 2 (pc' := 6) (l' := [(0, .ref 0), (1, .int (nI d)), (2, .int 2)]) (st' := [.int (nI d), .ref 0]) (h' := cMo (wSp M (mD M))) (P := True) rfl trivial ?_
  refine gW_callV (n_daysC (wSp M (mD M)) d hok ho hd) lk_Mo_126 [0, 1, 2, 3, 4, 5, 6] (gdec_at D_Mo_wouldPass 4 rfl) (st := []) rfl rfl ⟨rfl, rfl⟩ (Nat.le_of_ble_eq_true rfl) rfl (by decide) rfl (Nat.le_of_ble_eq_true rfl) ⟨Nat.le_of_ble_eq_true rfl, Nat.le_of_ble_eq_true rfl⟩ ⟨Nat.le_of_ble_eq_true rfl, Nat.le_of_ble_eq_true rfl⟩ (gAft_o rfl rfl (st' := [.int ((dyC (mD M) d).2)]) (pc' := 9) (cs' := 0) (ss' := 0) rfl rfl rfl rfl (fun od5 st5 ho5 => ?_))
  refine gW_b D_Mo_wouldPass 5 2 (pc' := 11) (l' := [(0, .ref 0), (1, .int (nI d)), (2, .int 2), (3, .int ((dyC (mD M) d).2))]) (st' := [.int 2]) (h' := cMo (wSt (wOd (wSp (wD M ((dyC (mD M) d).1)) (mD M)) od5) st5)) (P := True) rfl trivial ?_
  refine gW_if_ne (gdec_at D_Mo_wouldPass 7 rfl) (tgt := 18) rfl (fun _ => ?_) (fun cq => absurd cq (by decide))
  refine gW_b D_Mo_wouldPass 10 2 (pc' := 20) (l' := [(0, .ref 0), (1, .int (nI d)), (2, .int 2), (3, .int ((dyC (mD M) d).2))]) (st' := [.int 1, .int 2]) (h' := cMo (wSt (wOd (wSp (wD M ((dyC (mD M) d).1)) (mD M)) od5) st5)) (P := True) rfl trivial ?_
  refine gW_ic_ne (gdec_at D_Mo_wouldPass 12 rfl) (tgt := 41) rfl (fun _ => ?_) (fun cq => absurd cq (by decide))
  refine gW_b D_Mo_wouldPass 23 2 (pc' := 43) (l' := [(0, .ref 0), (1, .int (nI d)), (2, .int 2), (3, .int ((dyC (mD M) d).2))]) (st' := [.int 2, .int 2]) (h' := cMo (wSt (wOd (wSp (wD M ((dyC (mD M) d).1)) (mD M)) od5) st5)) (P := True) rfl trivial ?_
  refine gW_ic_ne (gdec_at D_Mo_wouldPass 25 rfl) (tgt := 64) rfl (fun cq => absurd (by decide) cq) (fun _ => ?_)
  refine gW_b D_Mo_wouldPass 26 10 (pc' := 70) (l' := [(0, .ref 0), (1, .int (nI d)), (2, .int 2), (3, .int ((dyC (mD M) d).2))]) (st' := [.int ((dLd ((dyC (mD M) d).1)) - (dLd (mD M)))]) (h' := cMo (wSt (wOd (wSp (wD M ((dyC (mD M) d).1)) (mD M)) od5) st5)) (P := vp_in 37 103 ∧ vp_in 37 103 ∧ True) rfl ⟨(gvl 37 103 (by omega) (by omega)), (gvl 37 103 (by omega) (by omega)), trivial⟩ ?_
  refine gW_b D_Mo_wouldPass 39 2 (pc' := 73) (l' := [(0, .ref 0), (1, .int (nI d)), (2, .int 2), (3, .int ((dyC (mD M) d).2)), (4, .int ((dLd ((dyC (mD M) d).1)) - (dLd (mD M))))]) (st' := [.ref 0]) (h' := cMo (wSt (wOd (wSp (wD M ((dyC (mD M) d).1)) (mD M)) od5) st5)) (P := True) rfl trivial ?_
  refine gW_callV (n_bringBack (wSt (wOd (wSp (wD M ((dyC (mD M) d).1)) (mD M)) od5) st5)  ) lk_Mo_182 [0, 1, 2, 3, 4, 5, 6] (gdec_at D_Mo_wouldPass 41 rfl) (st := []) rfl rfl ⟨rfl, rfl⟩ (Nat.le_of_ble_eq_true rfl) rfl (by decide) rfl (Nat.le_of_ble_eq_true rfl) ⟨Nat.le_of_ble_eq_true rfl, Nat.le_of_ble_eq_true rfl⟩ ⟨Nat.le_of_ble_eq_true rfl, Nat.le_of_ble_eq_true rfl⟩ (gAft_r rfl rfl (h' := cMo (wSt (wOd (wSp M (mD M)) od5) st5)) (st' := []) (pc' := 76) (cs' := 0) (ss' := 0) rfl rfl rfl rfl rfl ?_)
  refine gW_b D_Mo_wouldPass 42 2 (pc' := 78) (l' := [(0, .ref 0), (1, .int (nI d)), (2, .int 2), (3, .int ((dyC (mD M) d).2)), (4, .int ((dLd ((dyC (mD M) d).1)) - (dLd (mD M))))]) (st' := [.int 3, .int 2]) (h' := cMo (wSt (wOd (wSp M (mD M)) od5) st5)) (P := True) rfl trivial ?_
  refine gW_ic_ne (gdec_at D_Mo_wouldPass 44 rfl) (tgt := 93) rfl (fun _ => ?_) (fun cq => absurd cq (by decide))
  refine gW_b D_Mo_wouldPass 51 1 (pc' := 95) (l' := [(0, .ref 0), (1, .int (nI d)), (2, .int 2), (3, .int ((dyC (mD M) d).2)), (4, .int ((dLd ((dyC (mD M) d).1)) - (dLd (mD M))))]) (st' := [.int ((dLd ((dyC (mD M) d).1)) - (dLd (mD M)))]) (h' := cMo (wSt (wOd (wSp M (mD M)) od5) st5)) (P := True) rfl trivial ?_
  exact gW_iret (gdec_at D_Mo_wouldPass 52 rfl) rfl rfl (Nat.le_of_ble_eq_true rfl) ⟨od5, st5, (mD M), ho5, rfl, rfl⟩ (Nat.le_of_ble_eq_true rfl) (Nat.le_of_ble_eq_true rfl)
theorem n_ifPassed_2 (M : gMo) (hok : rOK (mD M)) (ho : odOK (mOd M)) (d : Nat) (h1 : 1 ≤ d) (hd : d ≤ 60) : gM K_Mo_ifPassed { frames := 8, locals := 186, cells := 0, slots := 0 } [.ref 0, .int (nI d), .int 2] (cMo M) (gXs (some (.int (dLd (dyC (mD M) d).1 - dLd (mD M)))) (wTh M 0)) := by
  refine gM_of rfl rfl (Nat.le_of_ble_eq_true rfl) (fun sc => ?_)
  refine gW_b D_Mo_ifPassed 0 4 (pc' := 5) (l' := [(0, .ref 0), (1, .int (nI d)), (2, .int 2)]) (st' := [.int 60, .int 1, .int (nI d), .ref 0]) (h' := cMo M) (P := True) rfl trivial ?_
  refine gW_callS (n_in_t (nI d) 1 60 (mt (glt (rfl : nI d = nI d) (gk 1) (by omega) (by omega)).mp (by omega)) (mt (glt (gk 60) (rfl : nI d = nI d) (by omega) (by omega)).mp (by omega))) lk_Mo_32 [] (gdec_at D_Mo_ifPassed 4 rfl) (st := [.ref 0]) rfl rfl ⟨rfl, rfl⟩ (Nat.le_of_ble_eq_true rfl) (Nat.le_of_ble_eq_true rfl) ⟨Nat.le_of_ble_eq_true rfl, Nat.le_of_ble_eq_true rfl⟩ ⟨Nat.le_of_ble_eq_true rfl, Nat.le_of_ble_eq_true rfl⟩ (gAft_r rfl rfl (h' := cMo M) (st' := [.int 1, .ref 0]) (pc' := 8) (cs' := 0) (ss' := 0) rfl rfl rfl rfl rfl ?_)
  refine gW_if_eq (gdec_at D_Mo_ifPassed 5 rfl) (tgt := 24) rfl (fun cq => absurd cq (by decide)) (fun _ => ?_)
  refine gW_b D_Mo_ifPassed 6 3 (pc' := 14) (l' := [(0, .ref 0), (1, .int (nI d)), (2, .int 2)]) (st' := [.int 3, .int 0, .int 2, .ref 0]) (h' := cMo M) (P := True) rfl trivial ?_
  refine gW_callS (n_in_t 2 0 3 (by decide) (by decide)) lk_Mo_32 [] (gdec_at D_Mo_ifPassed 9 rfl) (st := [.ref 0]) rfl rfl ⟨rfl, rfl⟩ (Nat.le_of_ble_eq_true rfl) (Nat.le_of_ble_eq_true rfl) ⟨Nat.le_of_ble_eq_true rfl, Nat.le_of_ble_eq_true rfl⟩ ⟨Nat.le_of_ble_eq_true rfl, Nat.le_of_ble_eq_true rfl⟩ (gAft_r rfl rfl (h' := cMo M) (st' := [.int 1, .ref 0]) (pc' := 17) (cs' := 0) (ss' := 0) rfl rfl rfl rfl rfl ?_)
  refine gW_if_eq (gdec_at D_Mo_ifPassed 10 rfl) (tgt := 24) rfl (fun cq => absurd cq (by decide)) (fun _ => ?_)
  refine gW_b D_Mo_ifPassed 11 2 (pc' := 25) (l' := [(0, .ref 0), (1, .int (nI d)), (2, .int 2)]) (st' := [.int 0, .ref 0]) (h' := cMo M) (P := True) rfl trivial ?_
  refine gW_b D_Mo_ifPassed 14 3 (pc' := 32) (l' := [(0, .ref 0), (1, .int (nI d)), (2, .int 2)]) (st' := [.int 0]) (h' := cMo (wTh M 0)) (P := True) rfl trivial ?_
  refine gW_if_le (gdec_at D_Mo_ifPassed 17 rfl) (tgt := 39) rfl (fun _ => ?_) (fun cq => absurd (by decide) cq)
  refine gW_b D_Mo_ifPassed 20 3 (pc' := 42) (l' := [(0, .ref 0), (1, .int (nI d)), (2, .int 2)]) (st' := [.int 2, .int (nI d), .ref 0]) (h' := cMo (wTh M 0)) (P := True) rfl trivial ?_
  refine gW_callV (n_wouldPass_2 (wTh M 0) hok ho d hd) lk_Mo_185 [0, 1, 2, 3, 4, 5, 6] (gdec_at D_Mo_ifPassed 23 rfl) (st := []) rfl rfl ⟨rfl, rfl⟩ (Nat.le_of_ble_eq_true rfl) rfl (by decide) rfl (Nat.le_of_ble_eq_true rfl) ⟨Nat.le_of_ble_eq_true rfl, Nat.le_of_ble_eq_true rfl⟩ ⟨Nat.le_of_ble_eq_true rfl, Nat.le_of_ble_eq_true rfl⟩ (gAft_e rfl rfl (st' := [.int (dLd (dyC (mD M) d).1 - dLd (mD M))]) (pc' := 45) (cs' := 0) (ss' := 0) rfl rfl rfl rfl (fun od6 st6 sp6 ho6 => ?_))
  exact gW_iret (gdec_at D_Mo_ifPassed 24 rfl) rfl rfl (Nat.le_of_ble_eq_true rfl) ⟨od6, st6, sp6, ho6, rfl, rfl⟩ (Nat.le_of_ble_eq_true rfl) (Nat.le_of_ble_eq_true rfl)
theorem n_wouldPass_3 (M : gMo) (hok : rOK (mD M)) (ho : odOK (mOd M)) (d : Nat) (hd : d ≤ 60) : gM K_Mo_wouldPass { frames := 7, locals := 162, cells := 0, slots := 0 } [.ref 0, .int (nI d), .int 3] (cMo M) (gXs (some (.int (sum4 (dSw (dyC (mD M) d).1) - sum4 (dSw (mD M))))) (M)) := by
  refine gM_of rfl rfl (Nat.le_of_ble_eq_true rfl) (fun sc => ?_)
  refine gW_b D_Mo_wouldPass 0 1 (pc' := 1) (l' := [(0, .ref 0), (1, .int (nI d)), (2, .int 3)]) (st' := [.ref 0]) (h' := cMo M) (P := True) rfl trivial ?_
  refine gW_callV (n_putAside M  ) lk_Mo_179 [0, 1, 2, 3, 4, 5, 6] (gdec_at D_Mo_wouldPass 1 rfl) (st := []) rfl rfl ⟨rfl, rfl⟩ (Nat.le_of_ble_eq_true rfl) rfl (by decide) rfl (Nat.le_of_ble_eq_true rfl) ⟨Nat.le_of_ble_eq_true rfl, Nat.le_of_ble_eq_true rfl⟩ ⟨Nat.le_of_ble_eq_true rfl, Nat.le_of_ble_eq_true rfl⟩ (gAft_r rfl rfl (h' := cMo (wSp M (mD M))) (st' := []) (pc' := 4) (cs' := 0) (ss' := 0) rfl rfl rfl rfl rfl ?_)
  refine gW_b D_Mo_wouldPass 2 2 (pc' := 6) (l' := [(0, .ref 0), (1, .int (nI d)), (2, .int 3)]) (st' := [.int (nI d), .ref 0]) (h' := cMo (wSp M (mD M))) (P := True) rfl trivial ?_
  refine gW_callV (n_daysC (wSp M (mD M)) d hok ho hd) lk_Mo_126 [0, 1, 2, 3, 4, 5, 6] (gdec_at D_Mo_wouldPass 4 rfl) (st := []) rfl rfl ⟨rfl, rfl⟩ (Nat.le_of_ble_eq_true rfl) rfl (by decide) rfl (Nat.le_of_ble_eq_true rfl) ⟨Nat.le_of_ble_eq_true rfl, Nat.le_of_ble_eq_true rfl⟩ ⟨Nat.le_of_ble_eq_true rfl, Nat.le_of_ble_eq_true rfl⟩ (gAft_o rfl rfl (st' := [.int ((dyC (mD M) d).2)]) (pc' := 9) (cs' := 0) (ss' := 0) rfl rfl rfl rfl (fun od7 st7 ho7 => ?_))
  refine gW_b D_Mo_wouldPass 5 2 (pc' := 11) (l' := [(0, .ref 0), (1, .int (nI d)), (2, .int 3), (3, .int ((dyC (mD M) d).2))]) (st' := [.int 3]) (h' := cMo (wSt (wOd (wSp (wD M ((dyC (mD M) d).1)) (mD M)) od7) st7)) (P := True) rfl trivial ?_
  refine gW_if_ne (gdec_at D_Mo_wouldPass 7 rfl) (tgt := 18) rfl (fun _ => ?_) (fun cq => absurd cq (by decide))
  refine gW_b D_Mo_wouldPass 10 2 (pc' := 20) (l' := [(0, .ref 0), (1, .int (nI d)), (2, .int 3), (3, .int ((dyC (mD M) d).2))]) (st' := [.int 1, .int 3]) (h' := cMo (wSt (wOd (wSp (wD M ((dyC (mD M) d).1)) (mD M)) od7) st7)) (P := True) rfl trivial ?_
  refine gW_ic_ne (gdec_at D_Mo_wouldPass 12 rfl) (tgt := 41) rfl (fun _ => ?_) (fun cq => absurd cq (by decide))
  refine gW_b D_Mo_wouldPass 23 2 (pc' := 43) (l' := [(0, .ref 0), (1, .int (nI d)), (2, .int 3), (3, .int ((dyC (mD M) d).2))]) (st' := [.int 2, .int 3]) (h' := cMo (wSt (wOd (wSp (wD M ((dyC (mD M) d).1)) (mD M)) od7) st7)) (P := True) rfl trivial ?_
  refine gW_ic_ne (gdec_at D_Mo_wouldPass 25 rfl) (tgt := 64) rfl (fun _ => ?_) (fun cq => absurd cq (by decide))
  refine gW_b D_Mo_wouldPass 36 2 (pc' := 67) (l' := [(0, .ref 0), (1, .int (nI d)), (2, .int 3), (3, .int ((dyC (mD M) d).2))]) (st' := [.int 43, .ref 0]) (h' := cMo (wSt (wOd (wSp (wD M ((dyC (mD M) d).1)) (mD M)) od7) st7)) (P := True) rfl trivial ?_
  refine gW_callV (n_allOf_43 (wSt (wOd (wSp (wD M ((dyC (mD M) d).1)) (mD M)) od7) st7)) lk_Mo_170 [0, 1, 2, 3, 4, 5, 6] (gdec_at D_Mo_wouldPass 38 rfl) (st := []) rfl rfl ⟨rfl, rfl⟩ (Nat.le_of_ble_eq_true rfl) rfl (by decide) rfl (Nat.le_of_ble_eq_true rfl) ⟨Nat.le_of_ble_eq_true rfl, Nat.le_of_ble_eq_true rfl⟩ ⟨Nat.le_of_ble_eq_true rfl, Nat.le_of_ble_eq_true rfl⟩ (gAft_r rfl rfl (h' := cMo (wSt (wOd (wSp (wD M ((dyC (mD M) d).1)) (mD M)) od7) st7)) (st' := [.int (sum4 (dSw ((dyC (mD M) d).1)))]) (pc' := 70) (cs' := 0) (ss' := 0) rfl rfl rfl rfl rfl ?_)
  refine gW_b D_Mo_wouldPass 39 2 (pc' := 73) (l' := [(0, .ref 0), (1, .int (nI d)), (2, .int 3), (3, .int ((dyC (mD M) d).2)), (4, .int (sum4 (dSw ((dyC (mD M) d).1))))]) (st' := [.ref 0]) (h' := cMo (wSt (wOd (wSp (wD M ((dyC (mD M) d).1)) (mD M)) od7) st7)) (P := True) rfl trivial ?_
  refine gW_callV (n_bringBack (wSt (wOd (wSp (wD M ((dyC (mD M) d).1)) (mD M)) od7) st7)  ) lk_Mo_182 [0, 1, 2, 3, 4, 5, 6] (gdec_at D_Mo_wouldPass 41 rfl) (st := []) rfl rfl ⟨rfl, rfl⟩ (Nat.le_of_ble_eq_true rfl) rfl (by decide) rfl (Nat.le_of_ble_eq_true rfl) ⟨Nat.le_of_ble_eq_true rfl, Nat.le_of_ble_eq_true rfl⟩ ⟨Nat.le_of_ble_eq_true rfl, Nat.le_of_ble_eq_true rfl⟩ (gAft_r rfl rfl (h' := cMo (wSt (wOd (wSp M (mD M)) od7) st7)) (st' := []) (pc' := 76) (cs' := 0) (ss' := 0) rfl rfl rfl rfl rfl ?_)
  refine gW_b D_Mo_wouldPass 42 2 (pc' := 78) (l' := [(0, .ref 0), (1, .int (nI d)), (2, .int 3), (3, .int ((dyC (mD M) d).2)), (4, .int (sum4 (dSw ((dyC (mD M) d).1))))]) (st' := [.int 3, .int 3]) (h' := cMo (wSt (wOd (wSp M (mD M)) od7) st7)) (P := True) rfl trivial ?_
  refine gW_ic_ne (gdec_at D_Mo_wouldPass 44 rfl) (tgt := 93) rfl (fun cq => absurd (by decide) cq) (fun _ => ?_)
  refine gW_b D_Mo_wouldPass 45 3 (pc' := 86) (l' := [(0, .ref 0), (1, .int (nI d)), (2, .int 3), (3, .int ((dyC (mD M) d).2)), (4, .int (sum4 (dSw ((dyC (mD M) d).1))))]) (st' := [.int 43, .ref 0, .int (sum4 (dSw ((dyC (mD M) d).1)))]) (h' := cMo (wSt (wOd (wSp M (mD M)) od7) st7)) (P := True) rfl trivial ?_
  refine gW_callV (n_allOf_43 (wSt (wOd (wSp M (mD M)) od7) st7)) lk_Mo_170 [0, 1, 2, 3, 4, 5, 6] (gdec_at D_Mo_wouldPass 48 rfl) (st := [.int (sum4 (dSw ((dyC (mD M) d).1)))]) rfl rfl ⟨rfl, rfl⟩ (Nat.le_of_ble_eq_true rfl) rfl (by decide) rfl (Nat.le_of_ble_eq_true rfl) ⟨Nat.le_of_ble_eq_true rfl, Nat.le_of_ble_eq_true rfl⟩ ⟨Nat.le_of_ble_eq_true rfl, Nat.le_of_ble_eq_true rfl⟩ (gAft_r rfl rfl (h' := cMo (wSt (wOd (wSp M (mD M)) od7) st7)) (st' := [.int (sum4 (dSw (mD M))), .int (sum4 (dSw ((dyC (mD M) d).1)))]) (pc' := 89) (cs' := 0) (ss' := 0) rfl rfl rfl rfl rfl ?_)
  refine gW_b D_Mo_wouldPass 49 2 (pc' := 95) (l' := [(0, .ref 0), (1, .int (nI d)), (2, .int 3), (3, .int ((dyC (mD M) d).2)), (4, .int (sum4 (dSw ((dyC (mD M) d).1))))]) (st' := [.int ((sum4 (dSw ((dyC (mD M) d).1))) - (sum4 (dSw (mD M))))]) (h' := cMo (wSt (wOd (wSp M (mD M)) od7) st7)) (P := True) rfl trivial ?_
  exact gW_iret (gdec_at D_Mo_wouldPass 52 rfl) rfl rfl (Nat.le_of_ble_eq_true rfl) ⟨od7, st7, (mD M), ho7, rfl, rfl⟩ (Nat.le_of_ble_eq_true rfl) (Nat.le_of_ble_eq_true rfl)
theorem n_ifPassed_3 (M : gMo) (hok : rOK (mD M)) (ho : odOK (mOd M)) (d : Nat) (h1 : 1 ≤ d) (hd : d ≤ 60) : gM K_Mo_ifPassed { frames := 8, locals := 186, cells := 0, slots := 0 } [.ref 0, .int (nI d), .int 3] (cMo M) (gXs (some (.int (sum4 (dSw (dyC (mD M) d).1) - sum4 (dSw (mD M))))) (wTh M 0)) := by
  refine gM_of rfl rfl (Nat.le_of_ble_eq_true rfl) (fun sc => ?_)
  refine gW_b D_Mo_ifPassed 0 4 (pc' := 5) (l' := [(0, .ref 0), (1, .int (nI d)), (2, .int 3)]) (st' := [.int 60, .int 1, .int (nI d), .ref 0]) (h' := cMo M) (P := True) rfl trivial ?_
  refine gW_callS (n_in_t (nI d) 1 60 (mt (glt (rfl : nI d = nI d) (gk 1) (by omega) (by omega)).mp (by omega)) (mt (glt (gk 60) (rfl : nI d = nI d) (by omega) (by omega)).mp (by omega))) lk_Mo_32 [] (gdec_at D_Mo_ifPassed 4 rfl) (st := [.ref 0]) rfl rfl ⟨rfl, rfl⟩ (Nat.le_of_ble_eq_true rfl) (Nat.le_of_ble_eq_true rfl) ⟨Nat.le_of_ble_eq_true rfl, Nat.le_of_ble_eq_true rfl⟩ ⟨Nat.le_of_ble_eq_true rfl, Nat.le_of_ble_eq_true rfl⟩ (gAft_r rfl rfl (h' := cMo M) (st' := [.int 1, .ref 0]) (pc' := 8) (cs' := 0) (ss' := 0) rfl rfl rfl rfl rfl ?_)
  refine gW_if_eq (gdec_at D_Mo_ifPassed 5 rfl) (tgt := 24) rfl (fun cq => absurd cq (by decide)) (fun _ => ?_)
  refine gW_b D_Mo_ifPassed 6 3 (pc' := 14) (l' := [(0, .ref 0), (1, .int (nI d)), (2, .int 3)]) (st' := [.int 3, .int 0, .int 3, .ref 0]) (h' := cMo M) (P := True) rfl trivial ?_
  refine gW_callS (n_in_t 3 0 3 (by decide) (by decide)) lk_Mo_32 [] (gdec_at D_Mo_ifPassed 9 rfl) (st := [.ref 0]) rfl rfl ⟨rfl, rfl⟩ (Nat.le_of_ble_eq_true rfl) (Nat.le_of_ble_eq_true rfl) ⟨Nat.le_of_ble_eq_true rfl, Nat.le_of_ble_eq_true rfl⟩ ⟨Nat.le_of_ble_eq_true rfl, Nat.le_of_ble_eq_true rfl⟩ (gAft_r rfl rfl (h' := cMo M) (st' := [.int 1, .ref 0]) (pc' := 17) (cs' := 0) (ss' := 0) rfl rfl rfl rfl rfl ?_)
  refine gW_if_eq (gdec_at D_Mo_ifPassed 10 rfl) (tgt := 24) rfl (fun cq => absurd cq (by decide)) (fun _ => ?_)
  refine gW_b D_Mo_ifPassed 11 2 (pc' := 25) (l' := [(0, .ref 0), (1, .int (nI d)), (2, .int 3)]) (st' := [.int 0, .ref 0]) (h' := cMo M) (P := True) rfl trivial ?_
  refine gW_b D_Mo_ifPassed 14 3 (pc' := 32) (l' := [(0, .ref 0), (1, .int (nI d)), (2, .int 3)]) (st' := [.int 0]) (h' := cMo (wTh M 0)) (P := True) rfl trivial ?_
  refine gW_if_le (gdec_at D_Mo_ifPassed 17 rfl) (tgt := 39) rfl (fun _ => ?_) (fun cq => absurd (by decide) cq)
  refine gW_b D_Mo_ifPassed 20 3 (pc' := 42) (l' := [(0, .ref 0), (1, .int (nI d)), (2, .int 3)]) (st' := [.int 3, .int (nI d), .ref 0]) (h' := cMo (wTh M 0)) (P := True) rfl trivial ?_
  refine gW_callV (n_wouldPass_3 (wTh M 0) hok ho d hd) lk_Mo_185 [0, 1, 2, 3, 4, 5, 6] (gdec_at D_Mo_ifPassed 23 rfl) (st := []) rfl rfl ⟨rfl, rfl⟩ (Nat.le_of_ble_eq_true rfl) rfl (by decide) rfl (Nat.le_of_ble_eq_true rfl) ⟨Nat.le_of_ble_eq_true rfl, Nat.le_of_ble_eq_true rfl⟩ ⟨Nat.le_of_ble_eq_true rfl, Nat.le_of_ble_eq_true rfl⟩ (gAft_e rfl rfl (st' := [.int (sum4 (dSw (dyC (mD M) d).1) - sum4 (dSw (mD M)))]) (pc' := 45) (cs' := 0) (ss' := 0) rfl rfl rfl rfl (fun od8 st8 sp8 ho8 => ?_))
  exact gW_iret (gdec_at D_Mo_ifPassed 24 rfl) rfl rfl (Nat.le_of_ble_eq_true rfl) ⟨od8, st8, sp8, ho8, rfl, rfl⟩ (Nat.le_of_ble_eq_true rfl) (Nat.le_of_ble_eq_true rfl)
theorem n_ifPassed_x1 (M : gMo) (x k : Int32) (h : x < 1 ∨ 60 < x) : gM K_Mo_ifPassed { frames := 8, locals := 186, cells := 0, slots := 0 } [.ref 0, .int x, .int k] (cMo M) (gD (.inl (some (.int 0))) (cMo (wTh M 1))) := by
  refine gM_of rfl rfl (Nat.le_of_ble_eq_true rfl) (fun sc => ?_)
  refine gW_b D_Mo_ifPassed 0 4 (pc' := 5) (l' := [(0, .ref 0), (1, .int x), (2, .int k)]) (st' := [.int 60, .int 1, .int x, .ref 0]) (h' := cMo M) (P := True) rfl trivial ?_
  refine gW_callS (n_in_f x 1 60 h) lk_Mo_32 [] (gdec_at D_Mo_ifPassed 4 rfl) (st := [.ref 0]) rfl rfl ⟨rfl, rfl⟩ (Nat.le_of_ble_eq_true rfl) (Nat.le_of_ble_eq_true rfl) ⟨Nat.le_of_ble_eq_true rfl, Nat.le_of_ble_eq_true rfl⟩ ⟨Nat.le_of_ble_eq_true rfl, Nat.le_of_ble_eq_true rfl⟩ (gAft_r rfl rfl (h' := cMo M) (st' := [.int 0, .ref 0]) (pc' := 8) (cs' := 0) (ss' := 0) rfl rfl rfl rfl rfl ?_)
  refine gW_if_eq (gdec_at D_Mo_ifPassed 5 rfl) (tgt := 24) rfl (fun _ => ?_) (fun cq => absurd (by decide) cq)
  refine gW_b D_Mo_ifPassed 13 4 (pc' := 32) (l' := [(0, .ref 0), (1, .int x), (2, .int k)]) (st' := [.int 1]) (h' := cMo (wTh M 1)) (P := True) rfl trivial ?_
  refine gW_if_le (gdec_at D_Mo_ifPassed 17 rfl) (tgt := 39) rfl (fun cq => absurd cq (by decide)) (fun _ => ?_)
  refine gW_b D_Mo_ifPassed 18 2 (pc' := 45) (l' := [(0, .ref 0), (1, .int x), (2, .int k)]) (st' := [.int 0]) (h' := cMo (wTh M 1)) (P := True) rfl trivial ?_
  exact gW_iret (gdec_at D_Mo_ifPassed 24 rfl) rfl rfl (Nat.le_of_ble_eq_true rfl) ⟨rfl, rfl⟩ (Nat.le_of_ble_eq_true rfl) (Nat.le_of_ble_eq_true rfl)
theorem n_ifPassed_x2 (M : gMo) (x k : Int32) (h1 : ¬ x < 1) (h2 : ¬ 60 < x) (h : k < 0 ∨ 3 < k) : gM K_Mo_ifPassed { frames := 8, locals := 186, cells := 0, slots := 0 } [.ref 0, .int x, .int k] (cMo M) (gD (.inl (some (.int 0))) (cMo (wTh M 1))) := by
  refine gM_of rfl rfl (Nat.le_of_ble_eq_true rfl) (fun sc => ?_)
  refine gW_b D_Mo_ifPassed 0 4 (pc' := 5) (l' := [(0, .ref 0), (1, .int x), (2, .int k)]) (st' := [.int 60, .int 1, .int x, .ref 0]) (h' := cMo M) (P := True) rfl trivial ?_
  refine gW_callS (n_in_t x 1 60 h1 h2) lk_Mo_32 [] (gdec_at D_Mo_ifPassed 4 rfl) (st := [.ref 0]) rfl rfl ⟨rfl, rfl⟩ (Nat.le_of_ble_eq_true rfl) (Nat.le_of_ble_eq_true rfl) ⟨Nat.le_of_ble_eq_true rfl, Nat.le_of_ble_eq_true rfl⟩ ⟨Nat.le_of_ble_eq_true rfl, Nat.le_of_ble_eq_true rfl⟩ (gAft_r rfl rfl (h' := cMo M) (st' := [.int 1, .ref 0]) (pc' := 8) (cs' := 0) (ss' := 0) rfl rfl rfl rfl rfl ?_)
  refine gW_if_eq (gdec_at D_Mo_ifPassed 5 rfl) (tgt := 24) rfl (fun cq => absurd cq (by decide)) (fun _ => ?_)
  refine gW_b D_Mo_ifPassed 6 3 (pc' := 14) (l' := [(0, .ref 0), (1, .int x), (2, .int k)]) (st' := [.int 3, .int 0, .int k, .ref 0]) (h' := cMo M) (P := True) rfl trivial ?_
  refine gW_callS (n_in_f k 0 3 h) lk_Mo_32 [] (gdec_at D_Mo_ifPassed 9 rfl) (st := [.ref 0]) rfl rfl ⟨rfl, rfl⟩ (Nat.le_of_ble_eq_true rfl) (Nat.le_of_ble_eq_true rfl) ⟨Nat.le_of_ble_eq_true rfl, Nat.le_of_ble_eq_true rfl⟩ ⟨Nat.le_of_ble_eq_true rfl, Nat.le_of_ble_eq_true rfl⟩ (gAft_r rfl rfl (h' := cMo M) (st' := [.int 0, .ref 0]) (pc' := 17) (cs' := 0) (ss' := 0) rfl rfl rfl rfl rfl ?_)
  refine gW_if_eq (gdec_at D_Mo_ifPassed 10 rfl) (tgt := 24) rfl (fun _ => ?_) (fun cq => absurd (by decide) cq)
  refine gW_b D_Mo_ifPassed 13 4 (pc' := 32) (l' := [(0, .ref 0), (1, .int x), (2, .int k)]) (st' := [.int 1]) (h' := cMo (wTh M 1)) (P := True) rfl trivial ?_
  refine gW_if_le (gdec_at D_Mo_ifPassed 17 rfl) (tgt := 39) rfl (fun cq => absurd cq (by decide)) (fun _ => ?_)
  refine gW_b D_Mo_ifPassed 18 2 (pc' := 45) (l' := [(0, .ref 0), (1, .int x), (2, .int k)]) (st' := [.int 0]) (h' := cMo (wTh M 1)) (P := True) rfl trivial ?_
  exact gW_iret (gdec_at D_Mo_ifPassed 24 rfl) rfl rfl (Nat.le_of_ble_eq_true rfl) ⟨rfl, rfl⟩ (Nat.le_of_ble_eq_true rfl) (Nat.le_of_ble_eq_true rfl)
theorem k_daysTo (M : gMo) (x : Int32) {sc : Nat × (Nat → Int32)} {n0 : Nat} (hn0 : n0 ≤ 7) : ∀ (n day : Nat) (D : gDom) (od : Nat → Nat) (st : Nat), day + n = 61 → rOK D → odOK od → gW K_Mo_daysTo sc { frames := 6, locals := 139, cells := 0, slots := 0 } n0 (gXs (some (.int (dtC x n day D))) (wD M (mSp M))) 0 0 8 [(0, .ref 0), (1, .int x), (2, .int (-1)), (3, .int (nI day))] [] (cMo (wSt (wOd (wD M D) od) st)) := by
  intro n
  induction n with
  | zero =>
    intro day D od st hi hok ho
    refine gW_b D_Mo_daysTo 6 2 (pc' := 11) (l' := [(0, .ref 0), (1, .int x), (2, .int (-1)), (3, .int (nI day))]) (st' := [.int 60, .int (nI day)]) (h' := cMo (wSt (wOd (wD M D) od) st)) (P := True) rfl trivial ?_
    refine gW_ic_gt (gdec_at D_Mo_daysTo 8 rfl) (tgt := 45) rfl (fun _ => ?_) (fun cq => absurd ((glt (gk 60) (rfl : nI day = nI day) (by omega) (by omega)).mpr (by omega)) cq)
    refine gW_b D_Mo_daysTo 26 1 (pc' := 46) (l' := [(0, .ref 0), (1, .int x), (2, .int (-1)), (3, .int (nI day))]) (st' := [.ref 0]) (h' := cMo (wSt (wOd (wD M D) od) st)) (P := True) rfl trivial ?_
    refine gW_callV (n_bringBack (wSt (wOd (wD M D) od) st)  ) lk_Mo_182 [0, 1, 2, 3, 4, 5, 6] (gdec_at D_Mo_daysTo 27 rfl) (st := []) rfl rfl ⟨rfl, rfl⟩ (Nat.le_of_ble_eq_true rfl) rfl (by decide) rfl (Nat.le_of_ble_eq_true rfl) ⟨Nat.le_of_ble_eq_true rfl, Nat.le_of_ble_eq_true rfl⟩ ⟨Nat.le_of_ble_eq_true rfl, Nat.le_of_ble_eq_true rfl⟩ (gAft_r rfl rfl (h' := cMo (wSt (wOd (wD M (mSp M)) od) st)) (st' := []) (pc' := 49) (cs' := 0) (ss' := 0) rfl rfl rfl rfl rfl ?_)
    refine gW_b D_Mo_daysTo 28 1 (pc' := 50) (l' := [(0, .ref 0), (1, .int x), (2, .int (-1)), (3, .int (nI day))]) (st' := [.int (-1)]) (h' := cMo (wSt (wOd (wD M (mSp M)) od) st)) (P := True) rfl trivial ?_
    exact gW_iret (gdec_at D_Mo_daysTo 29 rfl) rfl rfl hn0 ⟨od, st, (mSp M), ho, rfl, rfl⟩ (Nat.le_of_ble_eq_true rfl) (Nat.le_of_ble_eq_true rfl)
  | succ n ih =>
    intro day D od st hi hok ho
    have h2 := (rOK_cw hok).1
    have h10 := h2.1
    refine gW_b D_Mo_daysTo 6 2 (pc' := 11) (l' := [(0, .ref 0), (1, .int x), (2, .int (-1)), (3, .int (nI day))]) (st' := [.int 60, .int (nI day)]) (h' := cMo (wSt (wOd (wD M D) od) st)) (P := True) rfl trivial ?_
    refine gW_ic_gt (gdec_at D_Mo_daysTo 8 rfl) (tgt := 45) rfl (fun cq => absurd cq (mt (glt (gk 60) (rfl : nI day = nI day) (by omega) (by omega)).mp (by omega))) (fun _ => ?_)
    refine gW_b D_Mo_daysTo 9 2 (pc' := 16) (l' := [(0, .ref 0), (1, .int x), (2, .int (-1)), (3, .int (nI day))]) (st' := [.int (-1), .int (-1)]) (h' := cMo (wSt (wOd (wD M D) od) st)) (P := True) rfl trivial ?_
    refine gW_ic_ne (gdec_at D_Mo_daysTo 11 rfl) (tgt := 45) rfl (fun cq => absurd (by decide) cq) (fun _ => ?_)
    refine gW_b D_Mo_daysTo 12 1 (pc' := 20) (l' := [(0, .ref 0), (1, .int x), (2, .int (-1)), (3, .int (nI day))]) (st' := [.ref 0]) (h' := cMo (wSt (wOd (wD M D) od) st)) (P := True) rfl trivial ?_
    refine gW_callV (n_workC (wSt (wOd (wD M D) od) st) hok ho) lk_Mo_123 [0, 1, 2, 3, 4, 5, 6] (gdec_at D_Mo_daysTo 13 rfl) (st := []) rfl rfl ⟨rfl, rfl⟩ (Nat.le_of_ble_eq_true rfl) rfl (by decide) rfl (Nat.le_of_ble_eq_true rfl) ⟨Nat.le_of_ble_eq_true rfl, Nat.le_of_ble_eq_true rfl⟩ ⟨Nat.le_of_ble_eq_true rfl, Nat.le_of_ble_eq_true rfl⟩ (gAft_o rfl rfl (st' := [.int (cwL D)]) (pc' := 23) (cs' := 0) (ss' := 0) rfl rfl rfl rfl (fun od9 st9 ho9 => ?_))
    refine gW_b D_Mo_daysTo 14 3 (pc' := 26) (l' := [(0, .ref 0), (1, .int x), (2, .int (-1)), (3, .int (nI day))]) (st' := [.int x, .ref 0]) (h' := cMo (wSt (wOd (wD M (cwD D)) od9) st9)) (P := True) rfl trivial ?_
    refine gW_callV (n_placeOf (wSt (wOd (wD M (cwD D)) od9) st9) x h10) lk_Mo_78 [0, 1, 2, 3, 4, 5, 6] (gdec_at D_Mo_daysTo 17 rfl) (st := []) rfl rfl ⟨rfl, rfl⟩ (Nat.le_of_ble_eq_true rfl) rfl (by decide) rfl (Nat.le_of_ble_eq_true rfl) ⟨Nat.le_of_ble_eq_true rfl, Nat.le_of_ble_eq_true rfl⟩ ⟨Nat.le_of_ble_eq_true rfl, Nat.le_of_ble_eq_true rfl⟩ (gAft_r rfl rfl (h' := cMo (wSt (wOd (wD M (cwD D)) od9) st9)) (st' := [.int (plL (dG (cwD D)) x (dSz (cwD D)))]) (pc' := 29) (cs' := 0) (ss' := 0) rfl rfl rfl rfl rfl ?_)
    refine gW_b D_Mo_daysTo 18 1 (pc' := 30) (l' := [(0, .ref 0), (1, .int x), (2, .int (-1)), (3, .int (nI day))]) (st' := [.int (-1), .int (plL (dG (cwD D)) x (dSz (cwD D)))]) (h' := cMo (wSt (wOd (wD M (cwD D)) od9) st9)) (P := True) rfl trivial ?_
    refine gW_ic_ne (gdec_at D_Mo_daysTo 19 rfl) (tgt := 37) rfl (fun c => ?_) (fun c => ?_)
    · skip
      refine gW_b D_Mo_daysTo 22 4 (pc' := 8) (l' := [(0, .ref 0), (1, .int x), (2, .int (-1)), (3, .int ((nI day) + 1))]) (st' := []) (h' := cMo (wSt (wOd (wD M (cwD D)) od9) st9)) (P := True) rfl trivial ?_
      rw [show ((nI day) + 1 : Int32) = nI (day + 1) from (gadd (rfl : nI day = nI day) (gk 1))]
      rw [show dtC x (n + 1) day D = dtC x n (day + 1) (cwD D) from if_neg c]
      exact ih (day + 1) (cwD D) _ _ (by omega) h2 ho9
    · skip
      rw [show dtC x (n + 1) day D = nI day from if_pos c]
      refine gW_b D_Mo_daysTo 20 2 (pc' := 38) (l' := [(0, .ref 0), (1, .int x), (2, .int (-1)), (3, .int (nI day))]) (st' := [.int (nI day)]) (h' := cMo (wSt (wOd (wD M (cwD D)) od9) st9)) (P := True) rfl trivial ?_
      refine gW_b D_Mo_daysTo 23 3 (pc' := 8) (l' := [(0, .ref 0), (1, .int x), (2, .int (nI day)), (3, .int ((nI day) + 1))]) (st' := []) (h' := cMo (wSt (wOd (wD M (cwD D)) od9) st9)) (P := True) rfl trivial ?_
      rw [show ((nI day) + 1 : Int32) = nI (day + 1) from (gadd (rfl : nI day = nI day) (gk 1))]
      refine gW_b D_Mo_daysTo 6 2 (pc' := 11) (l' := [(0, .ref 0), (1, .int x), (2, .int (nI day)), (3, .int (nI (day + 1)))]) (st' := [.int 60, .int (nI (day + 1))]) (h' := cMo (wSt (wOd (wD M (cwD D)) od9) st9)) (P := True) rfl trivial ?_
      refine gW_ic_gt (gdec_at D_Mo_daysTo 8 rfl) (tgt := 45) rfl (fun d => ?_) (fun d => ?_)
      · have d := (glt (gk 60) (rfl : nI (day + 1) = nI (day + 1)) (by omega) (by omega)).mp d
        refine gW_b D_Mo_daysTo 26 1 (pc' := 46) (l' := [(0, .ref 0), (1, .int x), (2, .int (nI day)), (3, .int (nI (day + 1)))]) (st' := [.ref 0]) (h' := cMo (wSt (wOd (wD M (cwD D)) od9) st9)) (P := True) rfl trivial ?_
        refine gW_callV (n_bringBack (wSt (wOd (wD M (cwD D)) od9) st9)  ) lk_Mo_182 [0, 1, 2, 3, 4, 5, 6] (gdec_at D_Mo_daysTo 27 rfl) (st := []) rfl rfl ⟨rfl, rfl⟩ (Nat.le_of_ble_eq_true rfl) rfl (by decide) rfl (Nat.le_of_ble_eq_true rfl) ⟨Nat.le_of_ble_eq_true rfl, Nat.le_of_ble_eq_true rfl⟩ ⟨Nat.le_of_ble_eq_true rfl, Nat.le_of_ble_eq_true rfl⟩ (gAft_r rfl rfl (h' := cMo (wSt (wOd (wD M (mSp M)) od9) st9)) (st' := []) (pc' := 49) (cs' := 0) (ss' := 0) rfl rfl rfl rfl rfl ?_)
        refine gW_b D_Mo_daysTo 28 1 (pc' := 50) (l' := [(0, .ref 0), (1, .int x), (2, .int (nI day)), (3, .int (nI (day + 1)))]) (st' := [.int (nI day)]) (h' := cMo (wSt (wOd (wD M (mSp M)) od9) st9)) (P := True) rfl trivial ?_
        exact gW_iret (gdec_at D_Mo_daysTo 29 rfl) rfl rfl hn0 ⟨od9, st9, (mSp M), ho9, rfl, rfl⟩ (Nat.le_of_ble_eq_true rfl) (Nat.le_of_ble_eq_true rfl)
      · have d := mt (glt (gk 60) (rfl : nI (day + 1) = nI (day + 1)) (by omega) (by omega)).mpr d
        refine gW_b D_Mo_daysTo 9 2 (pc' := 16) (l' := [(0, .ref 0), (1, .int x), (2, .int (nI day)), (3, .int (nI (day + 1)))]) (st' := [.int (-1), .int (nI day)]) (h' := cMo (wSt (wOd (wD M (cwD D)) od9) st9)) (P := True) rfl trivial ?_
        refine gW_ic_ne (gdec_at D_Mo_daysTo 11 rfl) (tgt := 45) rfl (fun _ => ?_) (fun cq => absurd cq (nI_ne_m1 (by omega)))
        refine gW_b D_Mo_daysTo 26 1 (pc' := 46) (l' := [(0, .ref 0), (1, .int x), (2, .int (nI day)), (3, .int (nI (day + 1)))]) (st' := [.ref 0]) (h' := cMo (wSt (wOd (wD M (cwD D)) od9) st9)) (P := True) rfl trivial ?_
        refine gW_callV (n_bringBack (wSt (wOd (wD M (cwD D)) od9) st9)  ) lk_Mo_182 [0, 1, 2, 3, 4, 5, 6] (gdec_at D_Mo_daysTo 27 rfl) (st := []) rfl rfl ⟨rfl, rfl⟩ (Nat.le_of_ble_eq_true rfl) rfl (by decide) rfl (Nat.le_of_ble_eq_true rfl) ⟨Nat.le_of_ble_eq_true rfl, Nat.le_of_ble_eq_true rfl⟩ ⟨Nat.le_of_ble_eq_true rfl, Nat.le_of_ble_eq_true rfl⟩ (gAft_r rfl rfl (h' := cMo (wSt (wOd (wD M (mSp M)) od9) st9)) (st' := []) (pc' := 49) (cs' := 0) (ss' := 0) rfl rfl rfl rfl rfl ?_)
        refine gW_b D_Mo_daysTo 28 1 (pc' := 50) (l' := [(0, .ref 0), (1, .int x), (2, .int (nI day)), (3, .int (nI (day + 1)))]) (st' := [.int (nI day)]) (h' := cMo (wSt (wOd (wD M (mSp M)) od9) st9)) (P := True) rfl trivial ?_
        exact gW_iret (gdec_at D_Mo_daysTo 29 rfl) rfl rfl hn0 ⟨od9, st9, (mSp M), ho9, rfl, rfl⟩ (Nat.le_of_ble_eq_true rfl) (Nat.le_of_ble_eq_true rfl)
theorem n_daysTo (M : gMo) (hok : rOK (mD M)) (ho : odOK (mOd M)) (x : Int32) : gM K_Mo_daysTo { frames := 6, locals := 139, cells := 0, slots := 0 } [.ref 0, .int x] (cMo M) (gXs (some (.int (dtC x 60 1 (mD M)))) (M)) := by
  refine gM_of rfl rfl (Nat.le_of_ble_eq_true rfl) (fun sc => ?_)
  refine gW_b D_Mo_daysTo 0 1 (pc' := 1) (l' := [(0, .ref 0), (1, .int x)]) (st' := [.ref 0]) (h' := cMo M) (P := True) rfl trivial ?_
  refine gW_callV (n_putAside M  ) lk_Mo_179 [0, 1, 2, 3, 4, 5, 6] (gdec_at D_Mo_daysTo 1 rfl) (st := []) rfl rfl ⟨rfl, rfl⟩ (Nat.le_of_ble_eq_true rfl) rfl (by decide) rfl (Nat.le_of_ble_eq_true rfl) ⟨Nat.le_of_ble_eq_true rfl, Nat.le_of_ble_eq_true rfl⟩ ⟨Nat.le_of_ble_eq_true rfl, Nat.le_of_ble_eq_true rfl⟩ (gAft_r rfl rfl (h' := cMo (wSp M (mD M))) (st' := []) (pc' := 4) (cs' := 0) (ss' := 0) rfl rfl rfl rfl rfl ?_)
  refine gW_b D_Mo_daysTo 2 4 (pc' := 8) (l' := [(0, .ref 0), (1, .int x), (2, .int (-1)), (3, .int 1)]) (st' := []) (h' := cMo (wSp M (mD M))) (P := True) rfl trivial ?_
  exact k_daysTo (wSp M (mD M)) x (n0 := 7) (Nat.le_refl 7) 60 1 (mD M) (mOd M) (mSt M) rfl hok ho
theorem n_doneIn (M : gMo) (hok : rOK (mD M)) (ho : odOK (mOd M)) (x : Int32) (h : ¬ plL (dG (mD M)) x (dSz (mD M)) = -1) : gM K_Mo_doneIn { frames := 7, locals := 162, cells := 0, slots := 0 } [.ref 0, .int x] (cMo M) (gXs (some (.int (dtC x 60 1 (mD M)))) (wTh M 0)) := by
  refine gM_of rfl rfl (Nat.le_of_ble_eq_true rfl) (fun sc => ?_)
  have h10 := hok.1
  refine gW_b D_Mo_doneIn 0 3 (pc' := 3) (l' := [(0, .ref 0), (1, .int x)]) (st' := [.int x, .ref 0, .ref 0]) (h' := cMo M) (P := True) rfl trivial ?_
  refine gW_callV (n_placeOf M x h10) lk_Mo_78 [0, 1, 2, 3, 4, 5, 6] (gdec_at D_Mo_doneIn 3 rfl) (st := [.ref 0]) rfl rfl ⟨rfl, rfl⟩ (Nat.le_of_ble_eq_true rfl) rfl (by decide) rfl (Nat.le_of_ble_eq_true rfl) ⟨Nat.le_of_ble_eq_true rfl, Nat.le_of_ble_eq_true rfl⟩ ⟨Nat.le_of_ble_eq_true rfl, Nat.le_of_ble_eq_true rfl⟩ (gAft_r rfl rfl (h' := cMo M) (st' := [.int (plL (dG (mD M)) x (dSz (mD M))), .ref 0]) (pc' := 6) (cs' := 0) (ss' := 0) rfl rfl rfl rfl rfl ?_)
  refine gW_b D_Mo_doneIn 4 1 (pc' := 7) (l' := [(0, .ref 0), (1, .int x)]) (st' := [.int (-1), .int (plL (dG (mD M)) x (dSz (mD M))), .ref 0]) (h' := cMo M) (P := True) rfl trivial ?_
  refine gW_ic_ne (gdec_at D_Mo_doneIn 5 rfl) (tgt := 14) rfl (fun _ => ?_) (fun cq => absurd cq h)
  refine gW_b D_Mo_doneIn 8 4 (pc' := 22) (l' := [(0, .ref 0), (1, .int x)]) (st' := [.int 0]) (h' := cMo (wTh M 0)) (P := True) rfl trivial ?_
  refine gW_if_le (gdec_at D_Mo_doneIn 12 rfl) (tgt := 29) rfl (fun _ => ?_) (fun cq => absurd (by decide) cq)
  refine gW_b D_Mo_doneIn 15 2 (pc' := 31) (l' := [(0, .ref 0), (1, .int x)]) (st' := [.int x, .ref 0]) (h' := cMo (wTh M 0)) (P := True) rfl trivial ?_
  refine gW_callV (n_daysTo (wTh M 0) hok ho x) lk_Mo_188 [0, 1, 2, 3, 4, 5, 6] (gdec_at D_Mo_doneIn 17 rfl) (st := []) rfl rfl ⟨rfl, rfl⟩ (Nat.le_of_ble_eq_true rfl) rfl (by decide) rfl (Nat.le_of_ble_eq_true rfl) ⟨Nat.le_of_ble_eq_true rfl, Nat.le_of_ble_eq_true rfl⟩ ⟨Nat.le_of_ble_eq_true rfl, Nat.le_of_ble_eq_true rfl⟩ (gAft_e rfl rfl (st' := [.int (dtC x 60 1 (mD M))]) (pc' := 34) (cs' := 0) (ss' := 0) rfl rfl rfl rfl (fun od10 st10 sp10 ho10 => ?_))
  exact gW_iret (gdec_at D_Mo_doneIn 18 rfl) rfl rfl (Nat.le_of_ble_eq_true rfl) ⟨od10, st10, sp10, ho10, rfl, rfl⟩ (Nat.le_of_ble_eq_true rfl) (Nat.le_of_ble_eq_true rfl)
theorem n_doneIn_x (M : gMo) (x : Int32) (hs : dSz (mD M) ≤ 10) (h : plL (dG (mD M)) x (dSz (mD M)) = -1) : gM K_Mo_doneIn { frames := 7, locals := 162, cells := 0, slots := 0 } [.ref 0, .int x] (cMo M) (gD (.inl (some (.int 0))) (cMo (wTh M 1))) := by
  refine gM_of rfl rfl (Nat.le_of_ble_eq_true rfl) (fun sc => ?_)
  refine gW_b D_Mo_doneIn 0 3 (pc' := 3) (l' := [(0, .ref 0), (1, .int x)]) (st' := [.int x, .ref 0, .ref 0]) (h' := cMo M) (P := True) rfl trivial ?_
  refine gW_callV (n_placeOf M x hs) lk_Mo_78 [0, 1, 2, 3, 4, 5, 6] (gdec_at D_Mo_doneIn 3 rfl) (st := [.ref 0]) rfl rfl ⟨rfl, rfl⟩ (Nat.le_of_ble_eq_true rfl) rfl (by decide) rfl (Nat.le_of_ble_eq_true rfl) ⟨Nat.le_of_ble_eq_true rfl, Nat.le_of_ble_eq_true rfl⟩ ⟨Nat.le_of_ble_eq_true rfl, Nat.le_of_ble_eq_true rfl⟩ (gAft_r rfl rfl (h' := cMo M) (st' := [.int (plL (dG (mD M)) x (dSz (mD M))), .ref 0]) (pc' := 6) (cs' := 0) (ss' := 0) rfl rfl rfl rfl rfl ?_)
  refine gW_b D_Mo_doneIn 4 1 (pc' := 7) (l' := [(0, .ref 0), (1, .int x)]) (st' := [.int (-1), .int (plL (dG (mD M)) x (dSz (mD M))), .ref 0]) (h' := cMo M) (P := True) rfl trivial ?_
  refine gW_ic_ne (gdec_at D_Mo_doneIn 5 rfl) (tgt := 14) rfl (fun cq => absurd h cq) (fun _ => ?_)
  refine gW_b D_Mo_doneIn 6 2 (pc' := 15) (l' := [(0, .ref 0), (1, .int x)]) (st' := [.int 1, .ref 0]) (h' := cMo M) (P := True) rfl trivial ?_
  refine gW_b D_Mo_doneIn 9 3 (pc' := 22) (l' := [(0, .ref 0), (1, .int x)]) (st' := [.int 1]) (h' := cMo (wTh M 1)) (P := True) rfl trivial ?_
  refine gW_if_le (gdec_at D_Mo_doneIn 12 rfl) (tgt := 29) rfl (fun cq => absurd cq (by decide)) (fun _ => ?_)
  refine gW_b D_Mo_doneIn 13 2 (pc' := 34) (l' := [(0, .ref 0), (1, .int x)]) (st' := [.int 0]) (h' := cMo (wTh M 1)) (P := True) rfl trivial ?_
  exact gW_iret (gdec_at D_Mo_doneIn 18 rfl) rfl rfl (Nat.le_of_ble_eq_true rfl) ⟨rfl, rfl⟩ (Nat.le_of_ble_eq_true rfl) (Nat.le_of_ble_eq_true rfl)
def bfC (a b c e : Int32) : Int32 := if a < c then 1 else if c = a then bI (decide (e < b)) else 0
/-- the better order for d days -/
def bfI (D : gDom) (d : Nat) : Int32 := bfC (dDn (dyC (s2D D 0) d).1 - dDn D) (dLd (dyC (s2D D 0) d).1 - dLd D) (dDn (dyC (s2D D 1) d).1 - dDn D) (dLd (dyC (s2D D 1) d).1 - dLd D)
theorem u2_tw (f : Nat → Int32) (a b : Int32) : upd (upd f 2 a) 2 b = upd f 2 b := by
  funext j
  unfold upd
  by_cases h : j = 2
  · rw [if_pos h, if_pos h]
  · rw [if_neg h, if_neg h, if_neg h]
theorem u2_b2 (f : Nat → Int32) (a : Int32) : upd (upd f 2 a) 2 (f 2) = f := by
  funext j
  unfold upd
  by_cases h : j = 2
  · rw [if_pos h, h]
  · rw [if_neg h, if_neg h]
theorem k_bestFor (M : gMo) (a b c e : Int32) {sc : Nat × (Nat → Int32)} {n0 : Nat} {E : gO → gH → Prop} (hn0 : n0 ≤ 7) (hE : E (.inl (some (.int (bfC a b c e)))) (cMo M)) : gW K_Mo_bestFor sc { frames := 8, locals := 186, cells := 0, slots := 0 } n0 E 0 0 63 [(0, .ref 0), (3, .int a), (4, .int b), (5, .int c), (6, .int e)] [] (cMo M) := by
  refine gW_b D_Mo_bestFor 40 2 (pc' := 66) (l' := [(0, .ref 0), (3, .int a), (4, .int b), (5, .int c), (6, .int e)]) (st' := [.int a, .int c]) (h' := cMo M) (P := True) rfl trivial ?_
  refine gW_ic_gt (gdec_at D_Mo_bestFor 42 rfl) (tgt := 82) rfl (fun h1 => ?_) (fun h1 => ?_)
  · skip
    rw [show bfC a b c e = 1 from if_pos h1] at hE
    refine gW_b D_Mo_bestFor 49 2 (pc' := 87) (l' := [(0, .ref 0), (3, .int a), (4, .int b), (5, .int c), (6, .int e)]) (st' := [.int 1]) (h' := cMo M) (P := True) rfl trivial ?_
    exact gW_iret (gdec_at D_Mo_bestFor 52 rfl) rfl rfl hn0 hE (Nat.le_of_ble_eq_true rfl) (Nat.le_of_ble_eq_true rfl)
  · skip
    refine gW_b D_Mo_bestFor 43 2 (pc' := 72) (l' := [(0, .ref 0), (3, .int a), (4, .int b), (5, .int c), (6, .int e)]) (st' := [.int a, .int c]) (h' := cMo M) (P := True) rfl trivial ?_
    refine gW_ic_ne (gdec_at D_Mo_bestFor 45 rfl) (tgt := 86) rfl (fun h2 => ?_) (fun h2 => ?_)
    · skip
      rw [show bfC a b c e = 0 from (if_neg h1).trans (if_neg h2)] at hE
      refine gW_b D_Mo_bestFor 51 1 (pc' := 87) (l' := [(0, .ref 0), (3, .int a), (4, .int b), (5, .int c), (6, .int e)]) (st' := [.int 0]) (h' := cMo M) (P := True) rfl trivial ?_
      exact gW_iret (gdec_at D_Mo_bestFor 52 rfl) rfl rfl hn0 hE (Nat.le_of_ble_eq_true rfl) (Nat.le_of_ble_eq_true rfl)
    · skip
      refine gW_b D_Mo_bestFor 46 2 (pc' := 79) (l' := [(0, .ref 0), (3, .int a), (4, .int b), (5, .int c), (6, .int e)]) (st' := [.int b, .int e]) (h' := cMo M) (P := True) rfl trivial ?_
      refine gW_ic_ge (gdec_at D_Mo_bestFor 48 rfl) (tgt := 86) rfl (fun h3 => ?_) (fun h3 => ?_)
      · skip
        rw [show bfC a b c e = 0 from (if_neg h1).trans ((if_pos h2).trans (by rw [decide_eq_false (Int32.not_lt.mpr h3)]; rfl))] at hE
        refine gW_b D_Mo_bestFor 51 1 (pc' := 87) (l' := [(0, .ref 0), (3, .int a), (4, .int b), (5, .int c), (6, .int e)]) (st' := [.int 0]) (h' := cMo M) (P := True) rfl trivial ?_
        exact gW_iret (gdec_at D_Mo_bestFor 52 rfl) rfl rfl hn0 hE (Nat.le_of_ble_eq_true rfl) (Nat.le_of_ble_eq_true rfl)
      · skip
        rw [show bfC a b c e = 1 from (if_neg h1).trans ((if_pos h2).trans (by rw [decide_eq_true (Int32.not_le.mp h3)]; rfl))] at hE
        refine gW_b D_Mo_bestFor 49 2 (pc' := 87) (l' := [(0, .ref 0), (3, .int a), (4, .int b), (5, .int c), (6, .int e)]) (st' := [.int 1]) (h' := cMo M) (P := True) rfl trivial ?_
        exact gW_iret (gdec_at D_Mo_bestFor 52 rfl) rfl rfl hn0 hE (Nat.le_of_ble_eq_true rfl) (Nat.le_of_ble_eq_true rfl)
theorem n_bestFor (M : gMo) (hok : rOK (mD M)) (ho : odOK (mOd M)) (d : Nat) (hd : d ≤ 60) : gM K_Mo_bestFor { frames := 8, locals := 186, cells := 0, slots := 0 } [.ref 0, .int (nI d)] (cMo M) (gXs (some (.int (bfI (mD M) d))) (M)) := by
  refine gM_of rfl rfl (Nat.le_of_ble_eq_true rfl) (fun sc => ?_)
  refine gW_b D_Mo_bestFor 0 10 (pc' := 16) (l' := [(0, .ref 0), (1, .int (nI d)), (2, .int ((dSt (mD M)) 2))]) (st' := []) (h' := [cO 6 [.int (mTh M), .ref 1, .ref 2, .int (nI (mN M)), .ref 3, .ref 4, .int (nI (mTy M)), .ref 5, .int (nI (mSt M)), .ref 6, .int (nI (mPm M)), .int (nI (mSpt M)), .int (mWr M), .long (mHs M)], cI 103 (upd (zD (mD M)) 30 0), cI 618 (svF (mDs M)), cI 103 (zD (mSp M)), cI 60 (mBf M), cI 10 (oF (mOd M)), cI 39 (mPa M)]) (P := vp_in 30 103 ∧ vp_in 30 103 ∧ True) rfl ⟨(gvl 30 103 (by omega) (by omega)), (gvl 30 103 (by omega) (by omega)), trivial⟩ ?_
  rw [show upd (zD (mD M)) 30 0 = zD (dTr (mD M), dG (mD M), dSz (mD M), dC (mD M), upd (dSt (mD M)) 2 0, dSh (mD M), dCu (mD M), dLa (mD M), dSw (mD M), dDy (mD M), dDn (mD M), dLt (mD M), dLd (mD M), dSo (mD M)) from zu_st (mD M) 2 (by omega) 0]
  refine gW_b D_Mo_bestFor 10 3 (pc' := 19) (l' := [(0, .ref 0), (1, .int (nI d)), (2, .int ((dSt (mD M)) 2))]) (st' := [.int 1, .int (nI d), .ref 0]) (h' := cMo (wD M (dTr (mD M), dG (mD M), dSz (mD M), dC (mD M), upd (dSt (mD M)) 2 0, dSh (mD M), dCu (mD M), dLa (mD M), dSw (mD M), dDy (mD M), dDn (mD M), dLt (mD M), dLd (mD M), dSo (mD M)))) (P := True) rfl trivial ?_
  refine gW_callV (n_wouldPass_1 (wD M (dTr (mD M), dG (mD M), dSz (mD M), dC (mD M), upd (dSt (mD M)) 2 0, dSh (mD M), dCu (mD M), dLa (mD M), dSw (mD M), dDy (mD M), dDn (mD M), dLt (mD M), dLd (mD M), dSo (mD M))) (rOK_2 hok 0) ho d hd) lk_Mo_185 [0, 1, 2, 3, 4, 5, 6] (gdec_at D_Mo_bestFor 13 rfl) (st := []) rfl rfl ⟨rfl, rfl⟩ (Nat.le_of_ble_eq_true rfl) rfl (by decide) rfl (Nat.le_of_ble_eq_true rfl) ⟨Nat.le_of_ble_eq_true rfl, Nat.le_of_ble_eq_true rfl⟩ ⟨Nat.le_of_ble_eq_true rfl, Nat.le_of_ble_eq_true rfl⟩ (gAft_e rfl rfl (st' := [.int (dDn (dyC (s2D (mD M) 0) d).1 - dDn (mD M))]) (pc' := 22) (cs' := 0) (ss' := 0) rfl rfl rfl rfl (fun od11 st11 sp11 ho11 => ?_))
  refine gW_b D_Mo_bestFor 14 4 (pc' := 26) (l' := [(0, .ref 0), (1, .int (nI d)), (2, .int ((dSt (mD M)) 2)), (3, .int (dDn (dyC (s2D (mD M) 0) d).1 - dDn (mD M)))]) (st' := [.int 2, .int (nI d), .ref 0]) (h' := cMo (wSt (wOd (wSp (wD M (dTr (mD M), dG (mD M), dSz (mD M), dC (mD M), upd (dSt (mD M)) 2 0, dSh (mD M), dCu (mD M), dLa (mD M), dSw (mD M), dDy (mD M), dDn (mD M), dLt (mD M), dLd (mD M), dSo (mD M))) sp11) od11) st11)) (P := True) rfl trivial ?_
  refine gW_callV (n_wouldPass_2 (wSt (wOd (wSp (wD M (dTr (mD M), dG (mD M), dSz (mD M), dC (mD M), upd (dSt (mD M)) 2 0, dSh (mD M), dCu (mD M), dLa (mD M), dSw (mD M), dDy (mD M), dDn (mD M), dLt (mD M), dLd (mD M), dSo (mD M))) sp11) od11) st11) (rOK_2 hok 0) ho11 d hd) lk_Mo_185 [0, 1, 2, 3, 4, 5, 6] (gdec_at D_Mo_bestFor 18 rfl) (st := []) rfl rfl ⟨rfl, rfl⟩ (Nat.le_of_ble_eq_true rfl) rfl (by decide) rfl (Nat.le_of_ble_eq_true rfl) ⟨Nat.le_of_ble_eq_true rfl, Nat.le_of_ble_eq_true rfl⟩ ⟨Nat.le_of_ble_eq_true rfl, Nat.le_of_ble_eq_true rfl⟩ (gAft_e rfl rfl (st' := [.int (dLd (dyC (s2D (mD M) 0) d).1 - dLd (mD M))]) (pc' := 29) (cs' := 0) (ss' := 0) rfl rfl rfl rfl (fun od12 st12 sp12 ho12 => ?_))
  refine gW_b D_Mo_bestFor 19 6 (pc' := 39) (l' := [(0, .ref 0), (1, .int (nI d)), (2, .int ((dSt (mD M)) 2)), (3, .int (dDn (dyC (s2D (mD M) 0) d).1 - dDn (mD M))), (4, .int (dLd (dyC (s2D (mD M) 0) d).1 - dLd (mD M)))]) (st' := []) (h' := [cO 6 [.int (mTh M), .ref 1, .ref 2, .int (nI (mN M)), .ref 3, .ref 4, .int (nI (mTy M)), .ref 5, .int (nI st12), .ref 6, .int (nI (mPm M)), .int (nI (mSpt M)), .int (mWr M), .long (mHs M)], cI 103 (upd (zD (dTr (mD M), dG (mD M), dSz (mD M), dC (mD M), upd (dSt (mD M)) 2 0, dSh (mD M), dCu (mD M), dLa (mD M), dSw (mD M), dDy (mD M), dDn (mD M), dLt (mD M), dLd (mD M), dSo (mD M))) 30 1), cI 618 (svF (mDs M)), cI 103 (zD sp12), cI 60 (mBf M), cI 10 (oF od12), cI 39 (mPa M)]) (P := vp_in 30 103 ∧ True) rfl ⟨(gvl 30 103 (by omega) (by omega)), trivial⟩ ?_
  rw [show upd (zD (dTr (mD M), dG (mD M), dSz (mD M), dC (mD M), upd (dSt (mD M)) 2 0, dSh (mD M), dCu (mD M), dLa (mD M), dSw (mD M), dDy (mD M), dDn (mD M), dLt (mD M), dLd (mD M), dSo (mD M))) 30 1 = zD (dTr (mD M), dG (mD M), dSz (mD M), dC (mD M), upd (upd (dSt (mD M)) 2 0) 2 1, dSh (mD M), dCu (mD M), dLa (mD M), dSw (mD M), dDy (mD M), dDn (mD M), dLt (mD M), dLd (mD M), dSo (mD M)) from zu_st (dTr (mD M), dG (mD M), dSz (mD M), dC (mD M), upd (dSt (mD M)) 2 0, dSh (mD M), dCu (mD M), dLa (mD M), dSw (mD M), dDy (mD M), dDn (mD M), dLt (mD M), dLd (mD M), dSo (mD M)) 2 (by omega) 1]
  refine gW_b D_Mo_bestFor 25 3 (pc' := 42) (l' := [(0, .ref 0), (1, .int (nI d)), (2, .int ((dSt (mD M)) 2)), (3, .int (dDn (dyC (s2D (mD M) 0) d).1 - dDn (mD M))), (4, .int (dLd (dyC (s2D (mD M) 0) d).1 - dLd (mD M)))]) (st' := [.int 1, .int (nI d), .ref 0]) (h' := cMo (wSt (wOd (wSp (wD M (dTr (mD M), dG (mD M), dSz (mD M), dC (mD M), upd (upd (dSt (mD M)) 2 0) 2 1, dSh (mD M), dCu (mD M), dLa (mD M), dSw (mD M), dDy (mD M), dDn (mD M), dLt (mD M), dLd (mD M), dSo (mD M))) sp12) od12) st12)) (P := True) rfl trivial ?_
  rw [u2_tw]
  refine gW_callV (n_wouldPass_1 (wSt (wOd (wSp (wD M (dTr (mD M), dG (mD M), dSz (mD M), dC (mD M), upd (dSt (mD M)) 2 1, dSh (mD M), dCu (mD M), dLa (mD M), dSw (mD M), dDy (mD M), dDn (mD M), dLt (mD M), dLd (mD M), dSo (mD M))) sp12) od12) st12) (rOK_2 hok 1) ho12 d hd) lk_Mo_185 [0, 1, 2, 3, 4, 5, 6] (gdec_at D_Mo_bestFor 28 rfl) (st := []) rfl rfl ⟨rfl, rfl⟩ (Nat.le_of_ble_eq_true rfl) rfl (by decide) rfl (Nat.le_of_ble_eq_true rfl) ⟨Nat.le_of_ble_eq_true rfl, Nat.le_of_ble_eq_true rfl⟩ ⟨Nat.le_of_ble_eq_true rfl, Nat.le_of_ble_eq_true rfl⟩ (gAft_e rfl rfl (st' := [.int (dDn (dyC (s2D (mD M) 1) d).1 - dDn (mD M))]) (pc' := 45) (cs' := 0) (ss' := 0) rfl rfl rfl rfl (fun od13 st13 sp13 ho13 => ?_))
  refine gW_b D_Mo_bestFor 29 4 (pc' := 50) (l' := [(0, .ref 0), (1, .int (nI d)), (2, .int ((dSt (mD M)) 2)), (3, .int (dDn (dyC (s2D (mD M) 0) d).1 - dDn (mD M))), (4, .int (dLd (dyC (s2D (mD M) 0) d).1 - dLd (mD M))), (5, .int (dDn (dyC (s2D (mD M) 1) d).1 - dDn (mD M)))]) (st' := [.int 2, .int (nI d), .ref 0]) (h' := cMo (wSt (wOd (wSp (wD M (dTr (mD M), dG (mD M), dSz (mD M), dC (mD M), upd (dSt (mD M)) 2 1, dSh (mD M), dCu (mD M), dLa (mD M), dSw (mD M), dDy (mD M), dDn (mD M), dLt (mD M), dLd (mD M), dSo (mD M))) sp13) od13) st13)) (P := True) rfl trivial ?_
  refine gW_callV (n_wouldPass_2 (wSt (wOd (wSp (wD M (dTr (mD M), dG (mD M), dSz (mD M), dC (mD M), upd (dSt (mD M)) 2 1, dSh (mD M), dCu (mD M), dLa (mD M), dSw (mD M), dDy (mD M), dDn (mD M), dLt (mD M), dLd (mD M), dSo (mD M))) sp13) od13) st13) (rOK_2 hok 1) ho13 d hd) lk_Mo_185 [0, 1, 2, 3, 4, 5, 6] (gdec_at D_Mo_bestFor 33 rfl) (st := []) rfl rfl ⟨rfl, rfl⟩ (Nat.le_of_ble_eq_true rfl) rfl (by decide) rfl (Nat.le_of_ble_eq_true rfl) ⟨Nat.le_of_ble_eq_true rfl, Nat.le_of_ble_eq_true rfl⟩ ⟨Nat.le_of_ble_eq_true rfl, Nat.le_of_ble_eq_true rfl⟩ (gAft_e rfl rfl (st' := [.int (dLd (dyC (s2D (mD M) 1) d).1 - dLd (mD M))]) (pc' := 53) (cs' := 0) (ss' := 0) rfl rfl rfl rfl (fun od14 st14 sp14 ho14 => ?_))
  refine gW_b D_Mo_bestFor 34 6 (pc' := 63) (l' := [(0, .ref 0), (1, .int (nI d)), (2, .int ((dSt (mD M)) 2)), (3, .int (dDn (dyC (s2D (mD M) 0) d).1 - dDn (mD M))), (4, .int (dLd (dyC (s2D (mD M) 0) d).1 - dLd (mD M))), (5, .int (dDn (dyC (s2D (mD M) 1) d).1 - dDn (mD M))), (6, .int (dLd (dyC (s2D (mD M) 1) d).1 - dLd (mD M)))]) (st' := []) (h' := [cO 6 [.int (mTh M), .ref 1, .ref 2, .int (nI (mN M)), .ref 3, .ref 4, .int (nI (mTy M)), .ref 5, .int (nI st14), .ref 6, .int (nI (mPm M)), .int (nI (mSpt M)), .int (mWr M), .long (mHs M)], cI 103 (upd (zD (dTr (mD M), dG (mD M), dSz (mD M), dC (mD M), upd (dSt (mD M)) 2 1, dSh (mD M), dCu (mD M), dLa (mD M), dSw (mD M), dDy (mD M), dDn (mD M), dLt (mD M), dLd (mD M), dSo (mD M))) 30 ((dSt (mD M)) 2)), cI 618 (svF (mDs M)), cI 103 (zD sp14), cI 60 (mBf M), cI 10 (oF od14), cI 39 (mPa M)]) (P := vp_in 30 103 ∧ True) rfl ⟨(gvl 30 103 (by omega) (by omega)), trivial⟩ ?_
  rw [show upd (zD (dTr (mD M), dG (mD M), dSz (mD M), dC (mD M), upd (dSt (mD M)) 2 1, dSh (mD M), dCu (mD M), dLa (mD M), dSw (mD M), dDy (mD M), dDn (mD M), dLt (mD M), dLd (mD M), dSo (mD M))) 30 ((dSt (mD M)) 2) = zD (dTr (mD M), dG (mD M), dSz (mD M), dC (mD M), upd (upd (dSt (mD M)) 2 1) 2 ((dSt (mD M)) 2), dSh (mD M), dCu (mD M), dLa (mD M), dSw (mD M), dDy (mD M), dDn (mD M), dLt (mD M), dLd (mD M), dSo (mD M)) from zu_st (dTr (mD M), dG (mD M), dSz (mD M), dC (mD M), upd (dSt (mD M)) 2 1, dSh (mD M), dCu (mD M), dLa (mD M), dSw (mD M), dDy (mD M), dDn (mD M), dLt (mD M), dLd (mD M), dSo (mD M)) 2 (by omega) ((dSt (mD M)) 2)]
  rw [u2_b2]
  refine gW_l [0, 3, 4, 5, 6] (l' := [(0, .ref 0), (3, .int (dDn (dyC (s2D (mD M) 0) d).1 - dDn (mD M))), (4, .int (dLd (dyC (s2D (mD M) 0) d).1 - dLd (mD M))), (5, .int (dDn (dyC (s2D (mD M) 1) d).1 - dDn (mD M))), (6, .int (dLd (dyC (s2D (mD M) 1) d).1 - dLd (mD M)))]) rfl ?_
  exact k_bestFor (wSp (wSt (wOd M od14) st14) sp14) _ _ _ _ (n0 := 7) (Nat.le_refl 7) ⟨od14, st14, sp14, ho14, rfl, rfl⟩
theorem n_bestOrder (M : gMo) (hok : rOK (mD M)) (ho : odOK (mOd M)) (d : Nat) (h1 : 1 ≤ d) (h2 : d ≤ 30) : gM K_Mo_bestOrder { frames := 9, locals := 212, cells := 0, slots := 0 } [.ref 0, .int (nI d)] (cMo M) (gXs (some (.int (bfI (mD M) d))) (wTh M 0)) := by
  refine gM_of rfl rfl (Nat.le_of_ble_eq_true rfl) (fun sc => ?_)
  refine gW_b D_Mo_bestOrder 0 4 (pc' := 5) (l' := [(0, .ref 0), (1, .int (nI d))]) (st' := [.int 30, .int 1, .int (nI d), .ref 0]) (h' := cMo M) (P := True) rfl trivial ?_
  refine gW_callS (n_in_t (nI d) 1 30 (mt (glt (rfl : nI d = nI d) (gk 1) (by omega) (by omega)).mp (by omega)) (mt (glt (gk 30) (rfl : nI d = nI d) (by omega) (by omega)).mp (by omega))) lk_Mo_32 [] (gdec_at D_Mo_bestOrder 4 rfl) (st := [.ref 0]) rfl rfl ⟨rfl, rfl⟩ (Nat.le_of_ble_eq_true rfl) (Nat.le_of_ble_eq_true rfl) ⟨Nat.le_of_ble_eq_true rfl, Nat.le_of_ble_eq_true rfl⟩ ⟨Nat.le_of_ble_eq_true rfl, Nat.le_of_ble_eq_true rfl⟩ (gAft_r rfl rfl (h' := cMo M) (st' := [.int 1, .ref 0]) (pc' := 8) (cs' := 0) (ss' := 0) rfl rfl rfl rfl rfl ?_)
  refine gW_if_eq (gdec_at D_Mo_bestOrder 5 rfl) (tgt := 15) rfl (fun cq => absurd cq (by decide)) (fun _ => ?_)
  refine gW_b D_Mo_bestOrder 6 2 (pc' := 16) (l' := [(0, .ref 0), (1, .int (nI d))]) (st' := [.int 0, .ref 0]) (h' := cMo M) (P := True) rfl trivial ?_
  refine gW_b D_Mo_bestOrder 9 3 (pc' := 23) (l' := [(0, .ref 0), (1, .int (nI d))]) (st' := [.int 0]) (h' := cMo (wTh M 0)) (P := True) rfl trivial ?_
  refine gW_if_le (gdec_at D_Mo_bestOrder 12 rfl) (tgt := 30) rfl (fun _ => ?_) (fun cq => absurd (by decide) cq)
  refine gW_b D_Mo_bestOrder 15 2 (pc' := 32) (l' := [(0, .ref 0), (1, .int (nI d))]) (st' := [.int (nI d), .ref 0]) (h' := cMo (wTh M 0)) (P := True) rfl trivial ?_
  refine gW_callV (n_bestFor (wTh M 0) hok ho d (by omega)) lk_Mo_191 [0, 1, 2, 3, 4, 5, 6] (gdec_at D_Mo_bestOrder 17 rfl) (st := []) rfl rfl ⟨rfl, rfl⟩ (Nat.le_of_ble_eq_true rfl) rfl (by decide) rfl (Nat.le_of_ble_eq_true rfl) ⟨Nat.le_of_ble_eq_true rfl, Nat.le_of_ble_eq_true rfl⟩ ⟨Nat.le_of_ble_eq_true rfl, Nat.le_of_ble_eq_true rfl⟩ (gAft_e rfl rfl (st' := [.int (bfI (mD M) d)]) (pc' := 35) (cs' := 0) (ss' := 0) rfl rfl rfl rfl (fun od15 st15 sp15 ho15 => ?_))
  exact gW_iret (gdec_at D_Mo_bestOrder 18 rfl) rfl rfl (Nat.le_of_ble_eq_true rfl) ⟨od15, st15, sp15, ho15, rfl, rfl⟩ (Nat.le_of_ble_eq_true rfl) (Nat.le_of_ble_eq_true rfl)
theorem n_bestOrder_x (M : gMo) (x : Int32) (h : x < 1 ∨ 30 < x) : gM K_Mo_bestOrder { frames := 9, locals := 212, cells := 0, slots := 0 } [.ref 0, .int x] (cMo M) (gD (.inl (some (.int 0))) (cMo (wTh M 1))) := by
  refine gM_of rfl rfl (Nat.le_of_ble_eq_true rfl) (fun sc => ?_)
  refine gW_b D_Mo_bestOrder 0 4 (pc' := 5) (l' := [(0, .ref 0), (1, .int x)]) (st' := [.int 30, .int 1, .int x, .ref 0]) (h' := cMo M) (P := True) rfl trivial ?_
  refine gW_callS (n_in_f x 1 30 h) lk_Mo_32 [] (gdec_at D_Mo_bestOrder 4 rfl) (st := [.ref 0]) rfl rfl ⟨rfl, rfl⟩ (Nat.le_of_ble_eq_true rfl) (Nat.le_of_ble_eq_true rfl) ⟨Nat.le_of_ble_eq_true rfl, Nat.le_of_ble_eq_true rfl⟩ ⟨Nat.le_of_ble_eq_true rfl, Nat.le_of_ble_eq_true rfl⟩ (gAft_r rfl rfl (h' := cMo M) (st' := [.int 0, .ref 0]) (pc' := 8) (cs' := 0) (ss' := 0) rfl rfl rfl rfl rfl ?_)
  refine gW_if_eq (gdec_at D_Mo_bestOrder 5 rfl) (tgt := 15) rfl (fun _ => ?_) (fun cq => absurd (by decide) cq)
  refine gW_b D_Mo_bestOrder 8 4 (pc' := 23) (l' := [(0, .ref 0), (1, .int x)]) (st' := [.int 1]) (h' := cMo (wTh M 1)) (P := True) rfl trivial ?_
  refine gW_if_le (gdec_at D_Mo_bestOrder 12 rfl) (tgt := 30) rfl (fun cq => absurd cq (by decide)) (fun _ => ?_)
  refine gW_b D_Mo_bestOrder 13 2 (pc' := 35) (l' := [(0, .ref 0), (1, .int x)]) (st' := [.int 0]) (h' := cMo (wTh M 1)) (P := True) rfl trivial ?_
  exact gW_iret (gdec_at D_Mo_bestOrder 18 rfl) rfl rfl (Nat.le_of_ble_eq_true rfl) ⟨rfl, rfl⟩ (Nat.le_of_ble_eq_true rfl) (Nat.le_of_ble_eq_true rfl)
def shV (D : gDom) : UInt64 := if sum4 (dCu D) = 0 then FP.dconst1 else FP.ddiv (FP.i2d (sum4 (dLa D))) (FP.i2d (sum4 (dCu D)))
theorem n_share (M : gMo) (hq : ¬ sum4 (dCu (mD M)) = 0 → vf_n64 (FP.ddiv (FP.i2d (sum4 (dLa (mD M)))) (FP.i2d (sum4 (dCu (mD M))))))  : gM K_Mo_share { frames := 1, locals := 23, cells := 0, slots := 0 } [.ref 0] (cMo M) (gD (.inl (some (.double (shV (mD M))))) (cMo M)) := by
  refine gM_of rfl rfl (Nat.le_of_ble_eq_true rfl) (fun sc => ?_)
  refine gW_b D_Mo_share 0 2 (pc' := 3) (l' := [(0, .ref 0)]) (st' := [.int 39, .ref 0]) (h' := cMo M) (P := True) rfl trivial ?_
  refine gW_callV (n_allOf_39 M) lk_Mo_170 [0, 1, 2, 3, 4, 5, 6] (gdec_at D_Mo_share 2 rfl) (st := []) rfl rfl ⟨rfl, rfl⟩ (Nat.le_of_ble_eq_true rfl) rfl (by decide) rfl (Nat.le_of_ble_eq_true rfl) ⟨Nat.le_of_ble_eq_true rfl, Nat.le_of_ble_eq_true rfl⟩ ⟨Nat.le_of_ble_eq_true rfl, Nat.le_of_ble_eq_true rfl⟩ (gAft_r rfl rfl (h' := cMo M) (st' := [.int (sum4 (dCu (mD M)))]) (pc' := 6) (cs' := 0) (ss' := 0) rfl rfl rfl rfl rfl ?_)
  refine gW_if_ne (gdec_at D_Mo_share 3 rfl) (tgt := 13) rfl (fun c => ?_) (fun c => ?_)
  · skip
    rw [show shV (mD M) = FP.ddiv (FP.i2d (sum4 (dLa (mD M)))) (FP.i2d (sum4 (dCu (mD M)))) from if_neg c]
    refine gW_b D_Mo_share 6 2 (pc' := 16) (l' := [(0, .ref 0)]) (st' := [.int 47, .ref 0]) (h' := cMo M) (P := True) rfl trivial ?_
    refine gW_callV (n_allOf_47 M) lk_Mo_170 [0, 1, 2, 3, 4, 5, 6] (gdec_at D_Mo_share 8 rfl) (st := []) rfl rfl ⟨rfl, rfl⟩ (Nat.le_of_ble_eq_true rfl) rfl (by decide) rfl (Nat.le_of_ble_eq_true rfl) ⟨Nat.le_of_ble_eq_true rfl, Nat.le_of_ble_eq_true rfl⟩ ⟨Nat.le_of_ble_eq_true rfl, Nat.le_of_ble_eq_true rfl⟩ (gAft_r rfl rfl (h' := cMo M) (st' := [.int (sum4 (dLa (mD M)))]) (pc' := 19) (cs' := 0) (ss' := 0) rfl rfl rfl rfl rfl ?_)
    refine gW_b D_Mo_share 9 3 (pc' := 23) (l' := [(0, .ref 0)]) (st' := [.int 39, .ref 0, .double (FP.i2d (sum4 (dLa (mD M))))]) (h' := cMo M) (P := True) rfl trivial ?_
    refine gW_callV (n_allOf_39 M) lk_Mo_170 [0, 1, 2, 3, 4, 5, 6] (gdec_at D_Mo_share 12 rfl) (st := [.double (FP.i2d (sum4 (dLa (mD M))))]) rfl rfl ⟨rfl, rfl⟩ (Nat.le_of_ble_eq_true rfl) rfl (by decide) rfl (Nat.le_of_ble_eq_true rfl) ⟨Nat.le_of_ble_eq_true rfl, Nat.le_of_ble_eq_true rfl⟩ ⟨Nat.le_of_ble_eq_true rfl, Nat.le_of_ble_eq_true rfl⟩ (gAft_r rfl rfl (h' := cMo M) (st' := [.int (sum4 (dCu (mD M))), .double (FP.i2d (sum4 (dLa (mD M))))]) (pc' := 26) (cs' := 0) (ss' := 0) rfl rfl rfl rfl rfl ?_)
    refine gW_b D_Mo_share 13 2 (pc' := 28) (l' := [(0, .ref 0)]) (st' := [.double (FP.ddiv (FP.i2d (sum4 (dLa (mD M)))) (FP.i2d (sum4 (dCu (mD M)))))]) (h' := cMo M) (P := vf_n64 (FP.ddiv (FP.i2d (sum4 (dLa (mD M)))) (FP.i2d (sum4 (dCu (mD M))))) ∧ True) rfl ⟨hq c, trivial⟩ ?_
    exact gW_dret (gdec_at D_Mo_share 15 rfl) rfl (Nat.le_of_ble_eq_true rfl) ⟨rfl, rfl⟩ (Nat.le_of_ble_eq_true rfl) (Nat.le_of_ble_eq_true rfl)
  · skip
    rw [show shV (mD M) = FP.dconst1 from if_pos c]
    refine gW_b D_Mo_share 4 2 (pc' := 28) (l' := [(0, .ref 0)]) (st' := [.double FP.dconst1]) (h' := cMo M) (P := True) rfl trivial ?_
    exact gW_dret (gdec_at D_Mo_share 15 rfl) rfl (Nat.le_of_ble_eq_true rfl) ⟨rfl, rfl⟩ (Nat.le_of_ble_eq_true rfl) (Nat.le_of_ble_eq_true rfl)
theorem n_laidShare (M : gMo) (hq : ¬ sum4 (dCu (mD M)) = 0 → vf_n64 (FP.ddiv (FP.i2d (sum4 (dLa (mD M)))) (FP.i2d (sum4 (dCu (mD M))))))  : gM K_Mo_laidShare { frames := 2, locals := 43, cells := 0, slots := 0 } [.ref 0] (cMo M) (gD (.inl (some (.double (shV (mD M))))) (cMo (wTh M 0))) := by
  refine gM_of rfl rfl (Nat.le_of_ble_eq_true rfl) (fun sc => ?_)
  refine gW_b D_Mo_laidShare 0 4 (pc' := 6) (l' := [(0, .ref 0)]) (st' := [.ref 0]) (h' := cMo (wTh M 0)) (P := True) rfl trivial ?_
  refine gW_callV (n_share (wTh M 0) hq) lk_Mo_194 [0, 1, 2, 3, 4, 5, 6] (gdec_at D_Mo_laidShare 4 rfl) (st := []) rfl rfl ⟨rfl, rfl⟩ (Nat.le_of_ble_eq_true rfl) rfl (by decide) rfl (Nat.le_of_ble_eq_true rfl) ⟨Nat.le_of_ble_eq_true rfl, Nat.le_of_ble_eq_true rfl⟩ ⟨Nat.le_of_ble_eq_true rfl, Nat.le_of_ble_eq_true rfl⟩ (gAft_r rfl rfl (h' := cMo (wTh M 0)) (st' := [.double (shV (mD M))]) (pc' := 9) (cs' := 0) (ss' := 0) rfl rfl rfl rfl rfl ?_)
  exact gW_dret (gdec_at D_Mo_laidShare 5 rfl) rfl (Nat.le_of_ble_eq_true rfl) ⟨rfl, rfl⟩ (Nat.le_of_ble_eq_true rfl) (Nat.le_of_ble_eq_true rfl)
def brL : Nat → UInt64 → Int64 → UInt64 × Int64
  | 0, v, p => (v, p)
  | n + 1, v, p => if 0 ≤ Op.cmpValue (FP.dcmp v FP.dconst1) .g then (v, p) else brL n (FP.dmul v 4611686018427387904) (p - 1)
/-- n doublings are enough, and none of them is no number -/
def brK : Nat → UInt64 → Prop
  | 0, v => 0 ≤ Op.cmpValue (FP.dcmp v FP.dconst1) .g
  | n + 1, v => ¬ 0 ≤ Op.cmpValue (FP.dcmp v FP.dconst1) .g → vf_n64 (FP.dmul v 4611686018427387904) ∧ brK n (FP.dmul v 4611686018427387904)
def brE (x : UInt64 × Int64) : Int64 := (x.2 <<< ((52 : Int32).toInt64 &&& 63)) + FP.d2l (FP.dmul x.1 4841369599423283200) - 4503599627370496
def brV (N : Nat) (x : UInt64) : Int64 := if Op.cmpValue (FP.dcmp x FP.dconst0) .l = 0 then 0 else brE (brL N x 1023)
def brQ (N : Nat) (x : UInt64) : Prop := Op.cmpValue (FP.dcmp x 4611686018427387904) .l < 0 ∧ brK N x ∧ vf_n64 (FP.dmul (brL N x 1023).1 4841369599423283200)
theorem k_bitsOf (x : UInt64) {sc : Nat × (Nat → Int32)} {n0 : Nat} (hn0 : n0 ≤ 0) : ∀ (n : Nat) (v : UInt64) (p : Int64), brK n v → vf_n64 (FP.dmul (brL n v p).1 4841369599423283200) → gW K_Mo_bitsOf sc { frames := 0, locals := 0, cells := 0, slots := 0 } n0 (gD (.inl (some (.long (brE (brL n v p))))) ([])) 0 0 38 [(0, .double x), (2, .double v), (4, .long p)] [] ([]) := by
  intro n
  induction n with
  | zero =>
    intro v p hk hq
    refine gW_b D_Mo_bitsOf 23 3 (pc' := 41) (l' := [(0, .double x), (2, .double v), (4, .long p)]) (st' := [.int (Op.cmpValue (FP.dcmp v FP.dconst1) .g)]) (h' := []) (P := True) rfl trivial ?_
    refine gW_if_ge (gdec_at D_Mo_bitsOf 26 rfl) (tgt := 59) rfl (fun _ => ?_) (fun cq => absurd hk cq)
    have hq2 : vf_n64 (FP.dmul v 4841369599423283200) := hq
    refine gW_b D_Mo_bitsOf 36 10 (pc' := 75) (l' := [(0, .double x), (2, .double v), (4, .long p)]) (st' := [.long (((p <<< ((52 : Int32).toInt64 &&& 63)) + (FP.d2l (FP.dmul v 4841369599423283200))) - 4503599627370496)]) (h' := []) (P := vf_n64 (FP.dmul v 4841369599423283200) ∧ True) rfl ⟨(by assumption), trivial⟩ ?_
    exact gW_lret (gdec_at D_Mo_bitsOf 46 rfl) rfl hn0 ⟨rfl, rfl⟩ (Nat.le_of_ble_eq_true rfl) (Nat.le_of_ble_eq_true rfl)
  | succ n ih =>
    intro v p hk hq
    refine gW_b D_Mo_bitsOf 23 3 (pc' := 41) (l' := [(0, .double x), (2, .double v), (4, .long p)]) (st' := [.int (Op.cmpValue (FP.dcmp v FP.dconst1) .g)]) (h' := []) (P := True) rfl trivial ?_
    refine gW_if_ge (gdec_at D_Mo_bitsOf 26 rfl) (tgt := 59) rfl (fun c => ?_) (fun c => ?_)
    · skip
      rw [show brL (n + 1) v p = (v, p) from if_pos c] at hq ⊢
      have hq2 : vf_n64 (FP.dmul v 4841369599423283200) := hq
      refine gW_b D_Mo_bitsOf 36 10 (pc' := 75) (l' := [(0, .double x), (2, .double v), (4, .long p)]) (st' := [.long (((p <<< ((52 : Int32).toInt64 &&& 63)) + (FP.d2l (FP.dmul v 4841369599423283200))) - 4503599627370496)]) (h' := []) (P := vf_n64 (FP.dmul v 4841369599423283200) ∧ True) rfl ⟨(by assumption), trivial⟩ ?_
      exact gW_lret (gdec_at D_Mo_bitsOf 46 rfl) rfl hn0 ⟨rfl, rfl⟩ (Nat.le_of_ble_eq_true rfl) (Nat.le_of_ble_eq_true rfl)
    · skip
      obtain ⟨hk1, hk2⟩ := hk c
      rw [show brL (n + 1) v p = brL n (FP.dmul v 4611686018427387904) (p - 1) from if_neg c] at hq ⊢
      refine gW_b D_Mo_bitsOf 27 9 (pc' := 38) (l' := [(0, .double x), (2, .double (FP.dmul v 4611686018427387904)), (4, .long (p - 1))]) (st' := []) (h' := []) (P := vf_n64 (FP.dmul v 4611686018427387904) ∧ True) rfl ⟨(by assumption), trivial⟩ ?_
      exact ih _ _ hk2 hq
theorem n_bitsOf (N : Nat) (x : UInt64) (hk : ¬ Op.cmpValue (FP.dcmp x FP.dconst0) .l = 0 → brQ N x) : gM K_Mo_bitsOf { frames := 0, locals := 0, cells := 0, slots := 0 } [.double x] ([]) (gD (.inl (some (.long (brV N x)))) ([])) := by
  refine gM_of rfl rfl (Nat.le_of_ble_eq_true rfl) (fun sc => ?_)
  refine gW_b D_Mo_bitsOf 0 3 (pc' := 3) (l' := [(0, .double x)]) (st' := [.int (Op.cmpValue (FP.dcmp x FP.dconst0) .l)]) (h' := []) (P := True) rfl trivial ?_
  refine gW_if_ne (gdec_at D_Mo_bitsOf 3 rfl) (tgt := 8) rfl (fun c => ?_) (fun c => ?_)
  · skip
    obtain ⟨h2, h3, h4⟩ := hk c
    rw [show brV N x = brE (brL N x 1023) from if_neg c]
    refine gW_b D_Mo_bitsOf 6 7 (pc' := 20) (l' := [(0, .double x), (2, .double x), (4, .long 1023)]) (st' := [.int (Op.cmpValue (FP.dcmp x 4611686018427387904) .l)]) (h' := []) (P := True) rfl trivial ?_
    refine gW_if_lt (gdec_at D_Mo_bitsOf 13 rfl) (tgt := 38) rfl (fun _ => ?_) (fun cq => absurd h2 cq)
    exact k_bitsOf x (n0 := 0) (Nat.le_refl 0) N x 1023 h3 h4
  · skip
    rw [show brV N x = 0 from if_pos c]
    refine gW_b D_Mo_bitsOf 4 1 (pc' := 7) (l' := [(0, .double x)]) (st' := [.long 0]) (h' := []) (P := True) rfl trivial ?_
    exact gW_lret (gdec_at D_Mo_bitsOf 5 rfl) rfl (Nat.le_of_ble_eq_true rfl) ⟨rfl, rfl⟩ (Nat.le_of_ble_eq_true rfl) (Nat.le_of_ble_eq_true rfl)
