/-! THE REFERENCE's methods: looks. Printed by wip/whole/meths18.py -/
def emR (f : Nat → Int32) : Nat → Nat
  | 0 => 0
  | i + 1 => if hA f i = 0 then emR f i + 1 else emR f i
theorem emR_le (f : Nat → Int32) : ∀ i, emR f i ≤ i
  | 0 => Nat.le_refl _
  | i + 1 => by
    have := emR_le f i
    unfold emR
    split <;> omega
def lkR (D : gDom) (t : Nat) : Nat → Int32
  | 0 => -(hO (dTr D) t) - dSh D t * dSt D 0
  | i + 1 => if dG D (i * 5 + 1) = nI t then lkR D t i + nI (tkN (tnx (dSt D 5)) (tnx (dG D (i * 5 + 2)))) else lkR D t i
def lkI (D : gDom) (t : Nat) : Int32 := if lkR D t (dSz D) ≤ 0 then 0 else (lkR D t (dSz D) + dSt D 0 - 1) / dSt D 0
/-- at rest each section still wants cubes -/
def rsOK (D : gDom) : Prop := rOK D ∧ (∀ p, p < dSz D → 1 ≤ tnx (dG D (p * 5 + 2))) ∧ ¬ dSt D 0 = 0
theorem n_tray (M : gMo) (a t : Nat) (ha : a < 6) (ht : t < 4) : gM K_Mo_tray { frames := 2, locals := 45, cells := 0, slots := 0 } [.ref 0, .int (nI a), .int (nI t)] (cMo M) (gD (.inl (some (.int (dTr (mD M) (a * 4 + t))))) (cMo (wTh M 0))) := by
  refine gM_of rfl rfl (Nat.le_of_ble_eq_true rfl) (fun sc => ?_)
  refine gW_b D_Mo_tray 0 2 (pc' := 2) (l' := [(0, .ref 0), (1, .int (nI a)), (2, .int (nI t))]) (st' := [.int (nI a), .ref 0]) (h' := cMo M) (P := True) rfl trivial ?_
  refine gW_callS (n_isTray_t a (by omega)) lk_Mo_65 [] (gdec_at D_Mo_tray 2 rfl) (st := [.ref 0]) rfl rfl ⟨rfl, rfl⟩ (Nat.le_of_ble_eq_true rfl) (Nat.le_of_ble_eq_true rfl) ⟨Nat.le_of_ble_eq_true rfl, Nat.le_of_ble_eq_true rfl⟩ ⟨Nat.le_of_ble_eq_true rfl, Nat.le_of_ble_eq_true rfl⟩ (gAft_r rfl rfl (h' := cMo M) (st' := [.int 1, .ref 0]) (pc' := 5) (cs' := 0) (ss' := 0) rfl rfl rfl rfl rfl ?_)
  refine gW_if_eq (gdec_at D_Mo_tray 3 rfl) (tgt := 24) rfl (fun cq => absurd cq (by decide)) (fun _ => ?_)
  refine gW_b D_Mo_tray 4 1 (pc' := 9) (l' := [(0, .ref 0), (1, .int (nI a)), (2, .int (nI t))]) (st' := [.int (nI t), .ref 0]) (h' := cMo M) (P := True) rfl trivial ?_
  refine gW_callS (n_isTone_t t (by omega)) lk_Mo_58 [] (gdec_at D_Mo_tray 5 rfl) (st := [.ref 0]) rfl rfl ⟨rfl, rfl⟩ (Nat.le_of_ble_eq_true rfl) (Nat.le_of_ble_eq_true rfl) ⟨Nat.le_of_ble_eq_true rfl, Nat.le_of_ble_eq_true rfl⟩ ⟨Nat.le_of_ble_eq_true rfl, Nat.le_of_ble_eq_true rfl⟩ (gAft_r rfl rfl (h' := cMo M) (st' := [.int 1, .ref 0]) (pc' := 12) (cs' := 0) (ss' := 0) rfl rfl rfl rfl rfl ?_)
  refine gW_if_ne (gdec_at D_Mo_tray 6 rfl) (tgt := 20) rfl (fun _ => ?_) (fun cq => absurd cq (by decide))
  refine gW_b D_Mo_tray 10 2 (pc' := 25) (l' := [(0, .ref 0), (1, .int (nI a)), (2, .int (nI t))]) (st' := [.int 0, .ref 0]) (h' := cMo M) (P := True) rfl trivial ?_
  refine gW_b D_Mo_tray 13 3 (pc' := 32) (l' := [(0, .ref 0), (1, .int (nI a)), (2, .int (nI t))]) (st' := [.int 0]) (h' := cMo (wTh M 0)) (P := True) rfl trivial ?_
  refine gW_if_le (gdec_at D_Mo_tray 16 rfl) (tgt := 39) rfl (fun _ => ?_) (fun cq => absurd (by decide) cq)
  refine gW_b D_Mo_tray 19 2 (pc' := 41) (l' := [(0, .ref 0), (1, .int (nI a)), (2, .int (nI t))]) (st' := [.int (-1), .int (nI t)]) (h' := cMo (wTh M 0)) (P := True) rfl trivial ?_
  refine gW_ic_ne (gdec_at D_Mo_tray 21 rfl) (tgt := 52) rfl (fun _ => ?_) (fun cq => absurd cq (nI_ne_m1 (by omega)))
  refine gW_b D_Mo_tray 26 3 (pc' := 55) (l' := [(0, .ref 0), (1, .int (nI a)), (2, .int (nI t))]) (st' := [.int (nI t), .int (nI a), .ref 0]) (h' := cMo (wTh M 0)) (P := True) rfl trivial ?_
  refine gW_callV (n_cubes (wTh M 0) a t (by omega) (by omega)) lk_Mo_39 [0, 1, 2, 3, 4, 5, 6] (gdec_at D_Mo_tray 29 rfl) (st := []) rfl rfl ⟨rfl, rfl⟩ (Nat.le_of_ble_eq_true rfl) rfl (by decide) rfl (Nat.le_of_ble_eq_true rfl) ⟨Nat.le_of_ble_eq_true rfl, Nat.le_of_ble_eq_true rfl⟩ ⟨Nat.le_of_ble_eq_true rfl, Nat.le_of_ble_eq_true rfl⟩ (gAft_r rfl rfl (h' := cMo (wTh M 0)) (st' := [.int ((dTr (mD M)) (a * 4 + t))]) (pc' := 58) (cs' := 0) (ss' := 0) rfl rfl rfl rfl rfl ?_)
  exact gW_iret (gdec_at D_Mo_tray 30 rfl) rfl rfl (Nat.le_of_ble_eq_true rfl) ⟨rfl, rfl⟩ (Nat.le_of_ble_eq_true rfl) (Nat.le_of_ble_eq_true rfl)
theorem n_tray_all (M : gMo) (a : Nat) (ha : a < 6) : gM K_Mo_tray { frames := 2, locals := 45, cells := 0, slots := 0 } [.ref 0, .int (nI a), .int (-1)] (cMo M) (gD (.inl (some (.int (hA (dTr (mD M)) a)))) (cMo (wTh M 0))) := by
  refine gM_of rfl rfl (Nat.le_of_ble_eq_true rfl) (fun sc => ?_)
  refine gW_b D_Mo_tray 0 2 (pc' := 2) (l' := [(0, .ref 0), (1, .int (nI a)), (2, .int (-1))]) (st' := [.int (nI a), .ref 0]) (h' := cMo M) (P := True) rfl trivial ?_
  refine gW_callS (n_isTray_t a (by omega)) lk_Mo_65 [] (gdec_at D_Mo_tray 2 rfl) (st := [.ref 0]) rfl rfl ⟨rfl, rfl⟩ (Nat.le_of_ble_eq_true rfl) (Nat.le_of_ble_eq_true rfl) ⟨Nat.le_of_ble_eq_true rfl, Nat.le_of_ble_eq_true rfl⟩ ⟨Nat.le_of_ble_eq_true rfl, Nat.le_of_ble_eq_true rfl⟩ (gAft_r rfl rfl (h' := cMo M) (st' := [.int 1, .ref 0]) (pc' := 5) (cs' := 0) (ss' := 0) rfl rfl rfl rfl rfl ?_)
  refine gW_if_eq (gdec_at D_Mo_tray 3 rfl) (tgt := 24) rfl (fun cq => absurd cq (by decide)) (fun _ => ?_)
  refine gW_b D_Mo_tray 4 1 (pc' := 9) (l' := [(0, .ref 0), (1, .int (nI a)), (2, .int (-1))]) (st' := [.int (-1), .ref 0]) (h' := cMo M) (P := True) rfl trivial ?_
  refine gW_callS (n_isTone_f (-1) (Or.inl (by decide))) lk_Mo_58 [] (gdec_at D_Mo_tray 5 rfl) (st := [.ref 0]) rfl rfl ⟨rfl, rfl⟩ (Nat.le_of_ble_eq_true rfl) (Nat.le_of_ble_eq_true rfl) ⟨Nat.le_of_ble_eq_true rfl, Nat.le_of_ble_eq_true rfl⟩ ⟨Nat.le_of_ble_eq_true rfl, Nat.le_of_ble_eq_true rfl⟩ (gAft_r rfl rfl (h' := cMo M) (st' := [.int 0, .ref 0]) (pc' := 12) (cs' := 0) (ss' := 0) rfl rfl rfl rfl rfl ?_)
  refine gW_if_ne (gdec_at D_Mo_tray 6 rfl) (tgt := 20) rfl (fun cq => absurd (by decide) cq) (fun _ => ?_)
  refine gW_b D_Mo_tray 7 2 (pc' := 17) (l' := [(0, .ref 0), (1, .int (nI a)), (2, .int (-1))]) (st' := [.int (-1), .int (-1), .ref 0]) (h' := cMo M) (P := True) rfl trivial ?_
  refine gW_ic_ne (gdec_at D_Mo_tray 9 rfl) (tgt := 24) rfl (fun cq => absurd (by decide) cq) (fun _ => ?_)
  refine gW_b D_Mo_tray 10 2 (pc' := 25) (l' := [(0, .ref 0), (1, .int (nI a)), (2, .int (-1))]) (st' := [.int 0, .ref 0]) (h' := cMo M) (P := True) rfl trivial ?_
  refine gW_b D_Mo_tray 13 3 (pc' := 32) (l' := [(0, .ref 0), (1, .int (nI a)), (2, .int (-1))]) (st' := [.int 0]) (h' := cMo (wTh M 0)) (P := True) rfl trivial ?_
  refine gW_if_le (gdec_at D_Mo_tray 16 rfl) (tgt := 39) rfl (fun _ => ?_) (fun cq => absurd (by decide) cq)
  refine gW_b D_Mo_tray 19 2 (pc' := 41) (l' := [(0, .ref 0), (1, .int (nI a)), (2, .int (-1))]) (st' := [.int (-1), .int (-1)]) (h' := cMo (wTh M 0)) (P := True) rfl trivial ?_
  refine gW_ic_ne (gdec_at D_Mo_tray 21 rfl) (tgt := 52) rfl (fun cq => absurd (by decide) cq) (fun _ => ?_)
  refine gW_b D_Mo_tray 22 2 (pc' := 46) (l' := [(0, .ref 0), (1, .int (nI a)), (2, .int (-1))]) (st' := [.int (nI a), .ref 0]) (h' := cMo (wTh M 0)) (P := True) rfl trivial ?_
  refine gW_callV (n_inTray (wTh M 0) a (by omega)) lk_Mo_43 [0, 1, 2, 3, 4, 5, 6] (gdec_at D_Mo_tray 24 rfl) (st := []) rfl rfl ⟨rfl, rfl⟩ (Nat.le_of_ble_eq_true rfl) rfl (by decide) rfl (Nat.le_of_ble_eq_true rfl) ⟨Nat.le_of_ble_eq_true rfl, Nat.le_of_ble_eq_true rfl⟩ ⟨Nat.le_of_ble_eq_true rfl, Nat.le_of_ble_eq_true rfl⟩ (gAft_r rfl rfl (h' := cMo (wTh M 0)) (st' := [.int (hA (dTr (mD M)) a)]) (pc' := 49) (cs' := 0) (ss' := 0) rfl rfl rfl rfl rfl ?_)
  refine gW_b D_Mo_tray 25 1 (pc' := 58) (l' := [(0, .ref 0), (1, .int (nI a)), (2, .int (-1))]) (st' := [.int (hA (dTr (mD M)) a)]) (h' := cMo (wTh M 0)) (P := True) rfl trivial ?_
  exact gW_iret (gdec_at D_Mo_tray 30 rfl) rfl rfl (Nat.le_of_ble_eq_true rfl) ⟨rfl, rfl⟩ (Nat.le_of_ble_eq_true rfl) (Nat.le_of_ble_eq_true rfl)
theorem n_tray_x1 (M : gMo) (i t : Int32) (h : i < 0 ∨ 6 ≤ i) : gM K_Mo_tray { frames := 2, locals := 45, cells := 0, slots := 0 } [.ref 0, .int i, .int t] (cMo M) (gD (.inl (some (.int 0))) (cMo (wTh M 1))) := by
  refine gM_of rfl rfl (Nat.le_of_ble_eq_true rfl) (fun sc => ?_)
  refine gW_b D_Mo_tray 0 2 (pc' := 2) (l' := [(0, .ref 0), (1, .int i), (2, .int t)]) (st' := [.int i, .ref 0]) (h' := cMo M) (P := True) rfl trivial ?_
  refine gW_callS (n_isTray_f i h) lk_Mo_65 [] (gdec_at D_Mo_tray 2 rfl) (st := [.ref 0]) rfl rfl ⟨rfl, rfl⟩ (Nat.le_of_ble_eq_true rfl) (Nat.le_of_ble_eq_true rfl) ⟨Nat.le_of_ble_eq_true rfl, Nat.le_of_ble_eq_true rfl⟩ ⟨Nat.le_of_ble_eq_true rfl, Nat.le_of_ble_eq_true rfl⟩ (gAft_r rfl rfl (h' := cMo M) (st' := [.int 0, .ref 0]) (pc' := 5) (cs' := 0) (ss' := 0) rfl rfl rfl rfl rfl ?_)
  refine gW_if_eq (gdec_at D_Mo_tray 3 rfl) (tgt := 24) rfl (fun _ => ?_) (fun cq => absurd (by decide) cq)
  refine gW_b D_Mo_tray 12 4 (pc' := 32) (l' := [(0, .ref 0), (1, .int i), (2, .int t)]) (st' := [.int 1]) (h' := cMo (wTh M 1)) (P := True) rfl trivial ?_
  refine gW_if_le (gdec_at D_Mo_tray 16 rfl) (tgt := 39) rfl (fun cq => absurd cq (by decide)) (fun _ => ?_)
  refine gW_b D_Mo_tray 17 2 (pc' := 58) (l' := [(0, .ref 0), (1, .int i), (2, .int t)]) (st' := [.int 0]) (h' := cMo (wTh M 1)) (P := True) rfl trivial ?_
  exact gW_iret (gdec_at D_Mo_tray 30 rfl) rfl rfl (Nat.le_of_ble_eq_true rfl) ⟨rfl, rfl⟩ (Nat.le_of_ble_eq_true rfl) (Nat.le_of_ble_eq_true rfl)
theorem n_tray_x2 (M : gMo) (a : Nat) (t : Int32) (ha : a < 6) (h1 : ¬ t = -1) (h : t < 0 ∨ 4 ≤ t) : gM K_Mo_tray { frames := 2, locals := 45, cells := 0, slots := 0 } [.ref 0, .int (nI a), .int t] (cMo M) (gD (.inl (some (.int 0))) (cMo (wTh M 1))) := by
  refine gM_of rfl rfl (Nat.le_of_ble_eq_true rfl) (fun sc => ?_)
  refine gW_b D_Mo_tray 0 2 (pc' := 2) (l' := [(0, .ref 0), (1, .int (nI a)), (2, .int t)]) (st' := [.int (nI a), .ref 0]) (h' := cMo M) (P := True) rfl trivial ?_
  refine gW_callS (n_isTray_t a (by omega)) lk_Mo_65 [] (gdec_at D_Mo_tray 2 rfl) (st := [.ref 0]) rfl rfl ⟨rfl, rfl⟩ (Nat.le_of_ble_eq_true rfl) (Nat.le_of_ble_eq_true rfl) ⟨Nat.le_of_ble_eq_true rfl, Nat.le_of_ble_eq_true rfl⟩ ⟨Nat.le_of_ble_eq_true rfl, Nat.le_of_ble_eq_true rfl⟩ (gAft_r rfl rfl (h' := cMo M) (st' := [.int 1, .ref 0]) (pc' := 5) (cs' := 0) (ss' := 0) rfl rfl rfl rfl rfl ?_)
  refine gW_if_eq (gdec_at D_Mo_tray 3 rfl) (tgt := 24) rfl (fun cq => absurd cq (by decide)) (fun _ => ?_)
  refine gW_b D_Mo_tray 4 1 (pc' := 9) (l' := [(0, .ref 0), (1, .int (nI a)), (2, .int t)]) (st' := [.int t, .ref 0]) (h' := cMo M) (P := True) rfl trivial ?_
  refine gW_callS (n_isTone_f t h) lk_Mo_58 [] (gdec_at D_Mo_tray 5 rfl) (st := [.ref 0]) rfl rfl ⟨rfl, rfl⟩ (Nat.le_of_ble_eq_true rfl) (Nat.le_of_ble_eq_true rfl) ⟨Nat.le_of_ble_eq_true rfl, Nat.le_of_ble_eq_true rfl⟩ ⟨Nat.le_of_ble_eq_true rfl, Nat.le_of_ble_eq_true rfl⟩ (gAft_r rfl rfl (h' := cMo M) (st' := [.int 0, .ref 0]) (pc' := 12) (cs' := 0) (ss' := 0) rfl rfl rfl rfl rfl ?_)
  refine gW_if_ne (gdec_at D_Mo_tray 6 rfl) (tgt := 20) rfl (fun cq => absurd (by decide) cq) (fun _ => ?_)
  refine gW_b D_Mo_tray 7 2 (pc' := 17) (l' := [(0, .ref 0), (1, .int (nI a)), (2, .int t)]) (st' := [.int (-1), .int t, .ref 0]) (h' := cMo M) (P := True) rfl trivial ?_
  refine gW_ic_ne (gdec_at D_Mo_tray 9 rfl) (tgt := 24) rfl (fun _ => ?_) (fun cq => absurd cq h1)
  refine gW_b D_Mo_tray 12 4 (pc' := 32) (l' := [(0, .ref 0), (1, .int (nI a)), (2, .int t)]) (st' := [.int 1]) (h' := cMo (wTh M 1)) (P := True) rfl trivial ?_
  refine gW_if_le (gdec_at D_Mo_tray 16 rfl) (tgt := 39) rfl (fun cq => absurd cq (by decide)) (fun _ => ?_)
  refine gW_b D_Mo_tray 17 2 (pc' := 58) (l' := [(0, .ref 0), (1, .int (nI a)), (2, .int t)]) (st' := [.int 0]) (h' := cMo (wTh M 1)) (P := True) rfl trivial ?_
  exact gW_iret (gdec_at D_Mo_tray 30 rfl) rfl rfl (Nat.le_of_ble_eq_true rfl) ⟨rfl, rfl⟩ (Nat.le_of_ble_eq_true rfl) (Nat.le_of_ble_eq_true rfl)
theorem n_told (M : gMo) (hok : rOK (mD M)) (ho : odOK (mOd M)) (p k : Nat) (hp : p < dSz (mD M)) (hk : k < 5) : gM K_Mo_toldSection { frames := 3, locals := 67, cells := 0, slots := 0 } [.ref 0, .int (nI p), .int (nI k)] (cMo M) (gD (.inl (some (.int (dG (mD M) (rwO (mD M) (mOd M) p * 5 + k))))) (cMo (wOd M (rwO (mD M) (mOd M))))) := by
  refine gM_of rfl rfl (Nat.le_of_ble_eq_true rfl) (fun sc => ?_)
  have h10 := hok.1
  have hr : rwO (mD M) (mOd M) p < dSz (mD M) := loR_lt (dSz (mD M)) (mOd M) p hp
  refine gW_b D_Mo_toldSection 0 5 (pc' := 8) (l' := [(0, .ref 0), (1, .int (nI p)), (2, .int (nI k))]) (st' := [.int (nI (dSz (mD M))), .int (nI p)]) (h' := cMo M) (P := vp_in 52 103 ∧ True) rfl ⟨(gvl 52 103 (by omega) (by omega)), trivial⟩ ?_
  refine gW_ic_lt (gdec_at D_Mo_toldSection 5 rfl) (tgt := 13) rfl (fun _ => ?_) (fun cq => absurd ((glt (rfl : nI p = nI p) (rfl : nI (dSz (mD M)) = nI (dSz (mD M))) (by omega) (by omega)).mpr (by omega)) cq)
  refine gW_b D_Mo_toldSection 8 1 (pc' := 14) (l' := [(0, .ref 0), (1, .int (nI p)), (2, .int (nI k))]) (st' := [.ref 0]) (h' := cMo M) (P := True) rfl trivial ?_
  refine gW_callV (n_layOrder M (show dSz (mD M) ≤ 10 from h10) ho) lk_Mo_114 [0, 1, 2, 3, 4, 5, 6] (gdec_at D_Mo_toldSection 9 rfl) (st := []) rfl rfl ⟨rfl, rfl⟩ (Nat.le_of_ble_eq_true rfl) rfl (by decide) rfl (Nat.le_of_ble_eq_true rfl) ⟨Nat.le_of_ble_eq_true rfl, Nat.le_of_ble_eq_true rfl⟩ ⟨Nat.le_of_ble_eq_true rfl, Nat.le_of_ble_eq_true rfl⟩ (gAft_r rfl rfl (h' := cMo (wOd M (rwO (mD M) (mOd M)))) (st' := []) (pc' := 17) (cs' := 0) (ss' := 0) rfl rfl rfl rfl rfl ?_)
  refine gW_b D_Mo_toldSection 10 4 (pc' := 23) (l' := [(0, .ref 0), (1, .int (nI p)), (2, .int (nI k))]) (st' := [.int (nI ((rwO (mD M) (mOd M)) (nI p).toNatClampNeg))]) (h' := cMo (wOd M (rwO (mD M) (mOd M)))) (P := vp_in (nI p) 10 ∧ True) rfl ⟨(gvin (rfl : nI p = nI p) (by omega) (by omega)), trivial⟩ ?_
  rw [show (nI p).toNatClampNeg = p from gclp (rfl : nI p = nI p) (by omega)]
  refine gW_b D_Mo_toldSection 14 3 (pc' := 26) (l' := [(0, .ref 0), (1, .int (nI p)), (2, .int (nI k)), (3, .int (nI ((rwO (mD M) (mOd M)) p)))]) (st' := [.int 5, .int (nI k)]) (h' := cMo (wOd M (rwO (mD M) (mOd M)))) (P := True) rfl trivial ?_
  refine gW_ic_ge (gdec_at D_Mo_toldSection 17 rfl) (tgt := 38) rfl (fun cq => absurd cq (mt (gle (gk 5) (rfl : nI k = nI k) (by omega) (by omega)).mp (by omega))) (fun _ => ?_)
  refine gW_b D_Mo_toldSection 18 3 (pc' := 32) (l' := [(0, .ref 0), (1, .int (nI p)), (2, .int (nI k)), (3, .int (nI ((rwO (mD M) (mOd M)) p)))]) (st' := [.int (nI k), .int (nI ((rwO (mD M) (mOd M)) p)), .ref 0]) (h' := cMo (wOd M (rwO (mD M) (mOd M)))) (P := True) rfl trivial ?_
  refine gW_callV (n_its (wOd M (rwO (mD M) (mOd M))) ((rwO (mD M) (mOd M)) p) k (by omega) (by omega)) lk_Mo_75 [0, 1, 2, 3, 4, 5, 6] (gdec_at D_Mo_toldSection 21 rfl) (st := []) rfl rfl ⟨rfl, rfl⟩ (Nat.le_of_ble_eq_true rfl) rfl (by decide) rfl (Nat.le_of_ble_eq_true rfl) ⟨Nat.le_of_ble_eq_true rfl, Nat.le_of_ble_eq_true rfl⟩ ⟨Nat.le_of_ble_eq_true rfl, Nat.le_of_ble_eq_true rfl⟩ (gAft_r rfl rfl (h' := cMo (wOd M (rwO (mD M) (mOd M)))) (st' := [.int ((dG (mD M)) (((rwO (mD M) (mOd M)) p) * 5 + k))]) (pc' := 35) (cs' := 0) (ss' := 0) rfl rfl rfl rfl rfl ?_)
  refine gW_b D_Mo_toldSection 22 1 (pc' := 59) (l' := [(0, .ref 0), (1, .int (nI p)), (2, .int (nI k)), (3, .int (nI ((rwO (mD M) (mOd M)) p)))]) (st' := [.int ((dG (mD M)) (((rwO (mD M) (mOd M)) p) * 5 + k))]) (h' := cMo (wOd M (rwO (mD M) (mOd M)))) (P := True) rfl trivial ?_
  exact gW_iret (gdec_at D_Mo_toldSection 35 rfl) rfl rfl (Nat.le_of_ble_eq_true rfl) ⟨rfl, rfl⟩ (Nat.le_of_ble_eq_true rfl) (Nat.le_of_ble_eq_true rfl)
theorem n_told5 (M : gMo) (hok : rOK (mD M)) (ho : odOK (mOd M)) (p : Nat) (hp : p < dSz (mD M)) : gM K_Mo_toldSection { frames := 3, locals := 67, cells := 0, slots := 0 } [.ref 0, .int (nI p), .int 5] (cMo M) (gD (.inl (some (.int (bI (decide (dG (mD M) (rwO (mD M) (mOd M) p * 5 + 3) < dDy (mD M))))))) (cMo (wOd M (rwO (mD M) (mOd M))))) := by
  refine gM_of rfl rfl (Nat.le_of_ble_eq_true rfl) (fun sc => ?_)
  have h10 := hok.1
  have hr : rwO (mD M) (mOd M) p < dSz (mD M) := loR_lt (dSz (mD M)) (mOd M) p hp
  refine gW_b D_Mo_toldSection 0 5 (pc' := 8) (l' := [(0, .ref 0), (1, .int (nI p)), (2, .int 5)]) (st' := [.int (nI (dSz (mD M))), .int (nI p)]) (h' := cMo M) (P := vp_in 52 103 ∧ True) rfl ⟨(gvl 52 103 (by omega) (by omega)), trivial⟩ ?_
  refine gW_ic_lt (gdec_at D_Mo_toldSection 5 rfl) (tgt := 13) rfl (fun _ => ?_) (fun cq => absurd ((glt (rfl : nI p = nI p) (rfl : nI (dSz (mD M)) = nI (dSz (mD M))) (by omega) (by omega)).mpr (by omega)) cq)
  refine gW_b D_Mo_toldSection 8 1 (pc' := 14) (l' := [(0, .ref 0), (1, .int (nI p)), (2, .int 5)]) (st' := [.ref 0]) (h' := cMo M) (P := True) rfl trivial ?_
  refine gW_callV (n_layOrder M (show dSz (mD M) ≤ 10 from h10) ho) lk_Mo_114 [0, 1, 2, 3, 4, 5, 6] (gdec_at D_Mo_toldSection 9 rfl) (st := []) rfl rfl ⟨rfl, rfl⟩ (Nat.le_of_ble_eq_true rfl) rfl (by decide) rfl (Nat.le_of_ble_eq_true rfl) ⟨Nat.le_of_ble_eq_true rfl, Nat.le_of_ble_eq_true rfl⟩ ⟨Nat.le_of_ble_eq_true rfl, Nat.le_of_ble_eq_true rfl⟩ (gAft_r rfl rfl (h' := cMo (wOd M (rwO (mD M) (mOd M)))) (st' := []) (pc' := 17) (cs' := 0) (ss' := 0) rfl rfl rfl rfl rfl ?_)
  refine gW_b D_Mo_toldSection 10 4 (pc' := 23) (l' := [(0, .ref 0), (1, .int (nI p)), (2, .int 5)]) (st' := [.int (nI ((rwO (mD M) (mOd M)) (nI p).toNatClampNeg))]) (h' := cMo (wOd M (rwO (mD M) (mOd M)))) (P := vp_in (nI p) 10 ∧ True) rfl ⟨(gvin (rfl : nI p = nI p) (by omega) (by omega)), trivial⟩ ?_
  rw [show (nI p).toNatClampNeg = p from gclp (rfl : nI p = nI p) (by omega)]
  refine gW_b D_Mo_toldSection 14 3 (pc' := 26) (l' := [(0, .ref 0), (1, .int (nI p)), (2, .int 5), (3, .int (nI ((rwO (mD M) (mOd M)) p)))]) (st' := [.int 5, .int 5]) (h' := cMo (wOd M (rwO (mD M) (mOd M)))) (P := True) rfl trivial ?_
  refine gW_ic_ge (gdec_at D_Mo_toldSection 17 rfl) (tgt := 38) rfl (fun _ => ?_) (fun cq => absurd (by decide) cq)
  refine gW_b D_Mo_toldSection 23 7 (pc' := 48) (l' := [(0, .ref 0), (1, .int (nI p)), (2, .int 5), (3, .int (nI ((rwO (mD M) (mOd M)) p)))]) (st' := [.int 3, .int (nI ((rwO (mD M) (mOd M)) p)), .ref 0, .int (dDy (mD M))]) (h' := cMo (wOd M (rwO (mD M) (mOd M)))) (P := vp_in 34 103 ∧ True) rfl ⟨(gvl 34 103 (by omega) (by omega)), trivial⟩ ?_
  refine gW_callV (n_its (wOd M (rwO (mD M) (mOd M))) ((rwO (mD M) (mOd M)) p) 3 (by omega) (by omega)) lk_Mo_75 [0, 1, 2, 3, 4, 5, 6] (gdec_at D_Mo_toldSection 30 rfl) (st := [.int (dDy (mD M))]) rfl rfl ⟨rfl, rfl⟩ (Nat.le_of_ble_eq_true rfl) rfl (by decide) rfl (Nat.le_of_ble_eq_true rfl) ⟨Nat.le_of_ble_eq_true rfl, Nat.le_of_ble_eq_true rfl⟩ ⟨Nat.le_of_ble_eq_true rfl, Nat.le_of_ble_eq_true rfl⟩ (gAft_r rfl rfl (h' := cMo (wOd M (rwO (mD M) (mOd M)))) (st' := [.int ((dG (mD M)) (((rwO (mD M) (mOd M)) p) * 5 + 3)), .int (dDy (mD M))]) (pc' := 51) (cs' := 0) (ss' := 0) rfl rfl rfl rfl rfl ?_)
  refine gW_ic_le (gdec_at D_Mo_toldSection 31 rfl) (tgt := 58) rfl (fun c => ?_) (fun c => ?_)
  · skip
    refine gW_b D_Mo_toldSection 34 1 (pc' := 59) (l' := [(0, .ref 0), (1, .int (nI p)), (2, .int 5), (3, .int (nI ((rwO (mD M) (mOd M)) p)))]) (st' := [.int 0]) (h' := cMo (wOd M (rwO (mD M) (mOd M)))) (P := True) rfl trivial ?_
    rw [show bI (decide (dG (mD M) (rwO (mD M) (mOd M) p * 5 + 3) < dDy (mD M))) = 0 from by rw [decide_eq_false (Int32.not_lt.mpr c)]; rfl]
    exact gW_iret (gdec_at D_Mo_toldSection 35 rfl) rfl rfl (Nat.le_of_ble_eq_true rfl) ⟨rfl, rfl⟩ (Nat.le_of_ble_eq_true rfl) (Nat.le_of_ble_eq_true rfl)
  · skip
    refine gW_b D_Mo_toldSection 32 2 (pc' := 59) (l' := [(0, .ref 0), (1, .int (nI p)), (2, .int 5), (3, .int (nI ((rwO (mD M) (mOd M)) p)))]) (st' := [.int 1]) (h' := cMo (wOd M (rwO (mD M) (mOd M)))) (P := True) rfl trivial ?_
    rw [show bI (decide (dG (mD M) (rwO (mD M) (mOd M) p * 5 + 3) < dDy (mD M))) = 1 from by rw [decide_eq_true (Int32.not_le.mp c)]; rfl]
    exact gW_iret (gdec_at D_Mo_toldSection 35 rfl) rfl rfl (Nat.le_of_ble_eq_true rfl) ⟨rfl, rfl⟩ (Nat.le_of_ble_eq_true rfl) (Nat.le_of_ble_eq_true rfl)
theorem n_told_n (M : gMo) (x k : Int32) (hx : nI (dSz (mD M)) ≤ x) : gM K_Mo_toldSection { frames := 3, locals := 67, cells := 0, slots := 0 } [.ref 0, .int x, .int k] (cMo M) (gD (.inl (some (.int (-1)))) (cMo M)) := by
  refine gM_of rfl rfl (Nat.le_of_ble_eq_true rfl) (fun sc => ?_)
  refine gW_b D_Mo_toldSection 0 5 (pc' := 8) (l' := [(0, .ref 0), (1, .int x), (2, .int k)]) (st' := [.int (nI (dSz (mD M))), .int x]) (h' := cMo M) (P := vp_in 52 103 ∧ True) rfl ⟨(gvl 52 103 (by omega) (by omega)), trivial⟩ ?_
  refine gW_ic_lt (gdec_at D_Mo_toldSection 5 rfl) (tgt := 13) rfl (fun cq => absurd cq (Int32.not_lt.mpr hx)) (fun _ => ?_)
  refine gW_b D_Mo_toldSection 6 1 (pc' := 12) (l' := [(0, .ref 0), (1, .int x), (2, .int k)]) (st' := [.int (-1)]) (h' := cMo M) (P := True) rfl trivial ?_
  exact gW_iret (gdec_at D_Mo_toldSection 7 rfl) rfl rfl (Nat.le_of_ble_eq_true rfl) ⟨rfl, rfl⟩ (Nat.le_of_ble_eq_true rfl) (Nat.le_of_ble_eq_true rfl)
theorem n_sectionOf (M : gMo) (hok : rOK (mD M)) (ho : odOK (mOd M)) (p k : Nat) (hp : p < dSz (mD M)) (hk : k < 5) : gM K_Mo_sectionOf { frames := 4, locals := 90, cells := 0, slots := 0 } [.ref 0, .int (nI p), .int (nI k)] (cMo M) (gD (.inl (some (.int (dG (mD M) (rwO (mD M) (mOd M) p * 5 + k))))) (cMo (wOd (wTh M 0) (rwO (mD M) (mOd M))))) := by
  refine gM_of rfl rfl (Nat.le_of_ble_eq_true rfl) (fun sc => ?_)
  have h10 := hok.1
  refine gW_b D_Mo_sectionOf 0 2 (pc' := 2) (l' := [(0, .ref 0), (1, .int (nI p)), (2, .int (nI k))]) (st' := [.int (nI p), .ref 0]) (h' := cMo M) (P := True) rfl trivial ?_
  refine gW_if_lt (gdec_at D_Mo_sectionOf 2 rfl) (tgt := 18) rfl (fun cq => absurd cq (nI_pos (n := p) (by omega))) (fun _ => ?_)
  refine gW_b D_Mo_sectionOf 3 3 (pc' := 8) (l' := [(0, .ref 0), (1, .int (nI p)), (2, .int (nI k))]) (st' := [.int 5, .int 0, .int (nI k), .ref 0]) (h' := cMo M) (P := True) rfl trivial ?_
  refine gW_callS (n_in_t (nI k) 0 5 (mt (glt (rfl : nI k = nI k) (gk 0) (by omega) (by omega)).mp (by omega)) (mt (glt (gk 5) (rfl : nI k = nI k) (by omega) (by omega)).mp (by omega))) lk_Mo_32 [] (gdec_at D_Mo_sectionOf 6 rfl) (st := [.ref 0]) rfl rfl ⟨rfl, rfl⟩ (Nat.le_of_ble_eq_true rfl) (Nat.le_of_ble_eq_true rfl) ⟨Nat.le_of_ble_eq_true rfl, Nat.le_of_ble_eq_true rfl⟩ ⟨Nat.le_of_ble_eq_true rfl, Nat.le_of_ble_eq_true rfl⟩ (gAft_r rfl rfl (h' := cMo M) (st' := [.int 1, .ref 0]) (pc' := 11) (cs' := 0) (ss' := 0) rfl rfl rfl rfl rfl ?_)
  refine gW_if_eq (gdec_at D_Mo_sectionOf 7 rfl) (tgt := 18) rfl (fun cq => absurd cq (by decide)) (fun _ => ?_)
  refine gW_b D_Mo_sectionOf 8 2 (pc' := 19) (l' := [(0, .ref 0), (1, .int (nI p)), (2, .int (nI k))]) (st' := [.int 0, .ref 0]) (h' := cMo M) (P := True) rfl trivial ?_
  refine gW_b D_Mo_sectionOf 11 3 (pc' := 26) (l' := [(0, .ref 0), (1, .int (nI p)), (2, .int (nI k))]) (st' := [.int 0]) (h' := cMo (wTh M 0)) (P := True) rfl trivial ?_
  refine gW_if_le (gdec_at D_Mo_sectionOf 14 rfl) (tgt := 33) rfl (fun _ => ?_) (fun cq => absurd (by decide) cq)
  refine gW_b D_Mo_sectionOf 17 3 (pc' := 36) (l' := [(0, .ref 0), (1, .int (nI p)), (2, .int (nI k))]) (st' := [.int (nI k), .int (nI p), .ref 0]) (h' := cMo (wTh M 0)) (P := True) rfl trivial ?_
  refine gW_callV (n_told (wTh M 0) hok ho p k hp (by omega)) lk_Mo_157 [0, 1, 2, 3, 4, 5, 6] (gdec_at D_Mo_sectionOf 20 rfl) (st := []) rfl rfl ⟨rfl, rfl⟩ (Nat.le_of_ble_eq_true rfl) rfl (by decide) rfl (Nat.le_of_ble_eq_true rfl) ⟨Nat.le_of_ble_eq_true rfl, Nat.le_of_ble_eq_true rfl⟩ ⟨Nat.le_of_ble_eq_true rfl, Nat.le_of_ble_eq_true rfl⟩ (gAft_r rfl rfl (h' := cMo (wOd (wTh M 0) (rwO (mD M) (mOd M)))) (st' := [.int (dG (mD M) (rwO (mD M) (mOd M) p * 5 + k))]) (pc' := 39) (cs' := 0) (ss' := 0) rfl rfl rfl rfl rfl ?_)
  exact gW_iret (gdec_at D_Mo_sectionOf 21 rfl) rfl rfl (Nat.le_of_ble_eq_true rfl) ⟨rfl, rfl⟩ (Nat.le_of_ble_eq_true rfl) (Nat.le_of_ble_eq_true rfl)
theorem n_sectionOf_5 (M : gMo) (hok : rOK (mD M)) (ho : odOK (mOd M)) (p : Nat) (hp : p < dSz (mD M)) : gM K_Mo_sectionOf { frames := 4, locals := 90, cells := 0, slots := 0 } [.ref 0, .int (nI p), .int 5] (cMo M) (gD (.inl (some (.int (bI (decide (dG (mD M) (rwO (mD M) (mOd M) p * 5 + 3) < dDy (mD M))))))) (cMo (wOd (wTh M 0) (rwO (mD M) (mOd M))))) := by
  refine gM_of rfl rfl (Nat.le_of_ble_eq_true rfl) (fun sc => ?_)
  have h10 := hok.1
  refine gW_b D_Mo_sectionOf 0 2 (pc' := 2) (l' := [(0, .ref 0), (1, .int (nI p)), (2, .int 5)]) (st' := [.int (nI p), .ref 0]) (h' := cMo M) (P := True) rfl trivial ?_
  refine gW_if_lt (gdec_at D_Mo_sectionOf 2 rfl) (tgt := 18) rfl (fun cq => absurd cq (nI_pos (n := p) (by omega))) (fun _ => ?_)
  refine gW_b D_Mo_sectionOf 3 3 (pc' := 8) (l' := [(0, .ref 0), (1, .int (nI p)), (2, .int 5)]) (st' := [.int 5, .int 0, .int 5, .ref 0]) (h' := cMo M) (P := True) rfl trivial ?_
  refine gW_callS (n_in_t 5 0 5 (by decide) (by decide)) lk_Mo_32 [] (gdec_at D_Mo_sectionOf 6 rfl) (st := [.ref 0]) rfl rfl ⟨rfl, rfl⟩ (Nat.le_of_ble_eq_true rfl) (Nat.le_of_ble_eq_true rfl) ⟨Nat.le_of_ble_eq_true rfl, Nat.le_of_ble_eq_true rfl⟩ ⟨Nat.le_of_ble_eq_true rfl, Nat.le_of_ble_eq_true rfl⟩ (gAft_r rfl rfl (h' := cMo M) (st' := [.int 1, .ref 0]) (pc' := 11) (cs' := 0) (ss' := 0) rfl rfl rfl rfl rfl ?_)
  refine gW_if_eq (gdec_at D_Mo_sectionOf 7 rfl) (tgt := 18) rfl (fun cq => absurd cq (by decide)) (fun _ => ?_)
  refine gW_b D_Mo_sectionOf 8 2 (pc' := 19) (l' := [(0, .ref 0), (1, .int (nI p)), (2, .int 5)]) (st' := [.int 0, .ref 0]) (h' := cMo M) (P := True) rfl trivial ?_
  refine gW_b D_Mo_sectionOf 11 3 (pc' := 26) (l' := [(0, .ref 0), (1, .int (nI p)), (2, .int 5)]) (st' := [.int 0]) (h' := cMo (wTh M 0)) (P := True) rfl trivial ?_
  refine gW_if_le (gdec_at D_Mo_sectionOf 14 rfl) (tgt := 33) rfl (fun _ => ?_) (fun cq => absurd (by decide) cq)
  refine gW_b D_Mo_sectionOf 17 3 (pc' := 36) (l' := [(0, .ref 0), (1, .int (nI p)), (2, .int 5)]) (st' := [.int 5, .int (nI p), .ref 0]) (h' := cMo (wTh M 0)) (P := True) rfl trivial ?_
  refine gW_callV (n_told5 (wTh M 0) hok ho p hp) lk_Mo_157 [0, 1, 2, 3, 4, 5, 6] (gdec_at D_Mo_sectionOf 20 rfl) (st := []) rfl rfl ⟨rfl, rfl⟩ (Nat.le_of_ble_eq_true rfl) rfl (by decide) rfl (Nat.le_of_ble_eq_true rfl) ⟨Nat.le_of_ble_eq_true rfl, Nat.le_of_ble_eq_true rfl⟩ ⟨Nat.le_of_ble_eq_true rfl, Nat.le_of_ble_eq_true rfl⟩ (gAft_r rfl rfl (h' := cMo (wOd (wTh M 0) (rwO (mD M) (mOd M)))) (st' := [.int (bI (decide (dG (mD M) (rwO (mD M) (mOd M) p * 5 + 3) < dDy (mD M))))]) (pc' := 39) (cs' := 0) (ss' := 0) rfl rfl rfl rfl rfl ?_)
  exact gW_iret (gdec_at D_Mo_sectionOf 21 rfl) rfl rfl (Nat.le_of_ble_eq_true rfl) ⟨rfl, rfl⟩ (Nat.le_of_ble_eq_true rfl) (Nat.le_of_ble_eq_true rfl)
theorem n_sectionOf_n (M : gMo) (x k : Int32) (h0 : ¬ x < 0) (hx : nI (dSz (mD M)) ≤ x) (h1 : ¬ k < 0) (h2 : ¬ 5 < k) : gM K_Mo_sectionOf { frames := 4, locals := 90, cells := 0, slots := 0 } [.ref 0, .int x, .int k] (cMo M) (gD (.inl (some (.int (-1)))) (cMo (wTh M 0))) := by
  refine gM_of rfl rfl (Nat.le_of_ble_eq_true rfl) (fun sc => ?_)
  refine gW_b D_Mo_sectionOf 0 2 (pc' := 2) (l' := [(0, .ref 0), (1, .int x), (2, .int k)]) (st' := [.int x, .ref 0]) (h' := cMo M) (P := True) rfl trivial ?_
  refine gW_if_lt (gdec_at D_Mo_sectionOf 2 rfl) (tgt := 18) rfl (fun cq => absurd cq h0) (fun _ => ?_)
  refine gW_b D_Mo_sectionOf 3 3 (pc' := 8) (l' := [(0, .ref 0), (1, .int x), (2, .int k)]) (st' := [.int 5, .int 0, .int k, .ref 0]) (h' := cMo M) (P := True) rfl trivial ?_
  refine gW_callS (n_in_t k 0 5 h1 h2) lk_Mo_32 [] (gdec_at D_Mo_sectionOf 6 rfl) (st := [.ref 0]) rfl rfl ⟨rfl, rfl⟩ (Nat.le_of_ble_eq_true rfl) (Nat.le_of_ble_eq_true rfl) ⟨Nat.le_of_ble_eq_true rfl, Nat.le_of_ble_eq_true rfl⟩ ⟨Nat.le_of_ble_eq_true rfl, Nat.le_of_ble_eq_true rfl⟩ (gAft_r rfl rfl (h' := cMo M) (st' := [.int 1, .ref 0]) (pc' := 11) (cs' := 0) (ss' := 0) rfl rfl rfl rfl rfl ?_)
  refine gW_if_eq (gdec_at D_Mo_sectionOf 7 rfl) (tgt := 18) rfl (fun cq => absurd cq (by decide)) (fun _ => ?_)
  refine gW_b D_Mo_sectionOf 8 2 (pc' := 19) (l' := [(0, .ref 0), (1, .int x), (2, .int k)]) (st' := [.int 0, .ref 0]) (h' := cMo M) (P := True) rfl trivial ?_
  refine gW_b D_Mo_sectionOf 11 3 (pc' := 26) (l' := [(0, .ref 0), (1, .int x), (2, .int k)]) (st' := [.int 0]) (h' := cMo (wTh M 0)) (P := True) rfl trivial ?_
  refine gW_if_le (gdec_at D_Mo_sectionOf 14 rfl) (tgt := 33) rfl (fun _ => ?_) (fun cq => absurd (by decide) cq)
  refine gW_b D_Mo_sectionOf 17 3 (pc' := 36) (l' := [(0, .ref 0), (1, .int x), (2, .int k)]) (st' := [.int k, .int x, .ref 0]) (h' := cMo (wTh M 0)) (P := True) rfl trivial ?_
  refine gW_callV (n_told_n (wTh M 0) x k hx) lk_Mo_157 [0, 1, 2, 3, 4, 5, 6] (gdec_at D_Mo_sectionOf 20 rfl) (st := []) rfl rfl ⟨rfl, rfl⟩ (Nat.le_of_ble_eq_true rfl) rfl (by decide) rfl (Nat.le_of_ble_eq_true rfl) ⟨Nat.le_of_ble_eq_true rfl, Nat.le_of_ble_eq_true rfl⟩ ⟨Nat.le_of_ble_eq_true rfl, Nat.le_of_ble_eq_true rfl⟩ (gAft_r rfl rfl (h' := cMo (wTh M 0)) (st' := [.int (-1)]) (pc' := 39) (cs' := 0) (ss' := 0) rfl rfl rfl rfl rfl ?_)
  exact gW_iret (gdec_at D_Mo_sectionOf 21 rfl) rfl rfl (Nat.le_of_ble_eq_true rfl) ⟨rfl, rfl⟩ (Nat.le_of_ble_eq_true rfl) (Nat.le_of_ble_eq_true rfl)
theorem n_sectionOf_x1 (M : gMo) (x k : Int32) (h : x < 0) : gM K_Mo_sectionOf { frames := 4, locals := 90, cells := 0, slots := 0 } [.ref 0, .int x, .int k] (cMo M) (gD (.inl (some (.int 0))) (cMo (wTh M 1))) := by
  refine gM_of rfl rfl (Nat.le_of_ble_eq_true rfl) (fun sc => ?_)
  refine gW_b D_Mo_sectionOf 0 2 (pc' := 2) (l' := [(0, .ref 0), (1, .int x), (2, .int k)]) (st' := [.int x, .ref 0]) (h' := cMo M) (P := True) rfl trivial ?_
  refine gW_if_lt (gdec_at D_Mo_sectionOf 2 rfl) (tgt := 18) rfl (fun _ => ?_) (fun cq => absurd h cq)
  refine gW_b D_Mo_sectionOf 10 4 (pc' := 26) (l' := [(0, .ref 0), (1, .int x), (2, .int k)]) (st' := [.int 1]) (h' := cMo (wTh M 1)) (P := True) rfl trivial ?_
  refine gW_if_le (gdec_at D_Mo_sectionOf 14 rfl) (tgt := 33) rfl (fun cq => absurd cq (by decide)) (fun _ => ?_)
  refine gW_b D_Mo_sectionOf 15 2 (pc' := 39) (l' := [(0, .ref 0), (1, .int x), (2, .int k)]) (st' := [.int 0]) (h' := cMo (wTh M 1)) (P := True) rfl trivial ?_
  exact gW_iret (gdec_at D_Mo_sectionOf 21 rfl) rfl rfl (Nat.le_of_ble_eq_true rfl) ⟨rfl, rfl⟩ (Nat.le_of_ble_eq_true rfl) (Nat.le_of_ble_eq_true rfl)
theorem n_sectionOf_x2 (M : gMo) (x k : Int32) (h0 : ¬ x < 0) (h : k < 0 ∨ 5 < k) : gM K_Mo_sectionOf { frames := 4, locals := 90, cells := 0, slots := 0 } [.ref 0, .int x, .int k] (cMo M) (gD (.inl (some (.int 0))) (cMo (wTh M 1))) := by
  refine gM_of rfl rfl (Nat.le_of_ble_eq_true rfl) (fun sc => ?_)
  refine gW_b D_Mo_sectionOf 0 2 (pc' := 2) (l' := [(0, .ref 0), (1, .int x), (2, .int k)]) (st' := [.int x, .ref 0]) (h' := cMo M) (P := True) rfl trivial ?_
  refine gW_if_lt (gdec_at D_Mo_sectionOf 2 rfl) (tgt := 18) rfl (fun cq => absurd cq h0) (fun _ => ?_)
  refine gW_b D_Mo_sectionOf 3 3 (pc' := 8) (l' := [(0, .ref 0), (1, .int x), (2, .int k)]) (st' := [.int 5, .int 0, .int k, .ref 0]) (h' := cMo M) (P := True) rfl trivial ?_
  refine gW_callS (n_in_f k 0 5 h) lk_Mo_32 [] (gdec_at D_Mo_sectionOf 6 rfl) (st := [.ref 0]) rfl rfl ⟨rfl, rfl⟩ (Nat.le_of_ble_eq_true rfl) (Nat.le_of_ble_eq_true rfl) ⟨Nat.le_of_ble_eq_true rfl, Nat.le_of_ble_eq_true rfl⟩ ⟨Nat.le_of_ble_eq_true rfl, Nat.le_of_ble_eq_true rfl⟩ (gAft_r rfl rfl (h' := cMo M) (st' := [.int 0, .ref 0]) (pc' := 11) (cs' := 0) (ss' := 0) rfl rfl rfl rfl rfl ?_)
  refine gW_if_eq (gdec_at D_Mo_sectionOf 7 rfl) (tgt := 18) rfl (fun _ => ?_) (fun cq => absurd (by decide) cq)
  refine gW_b D_Mo_sectionOf 10 4 (pc' := 26) (l' := [(0, .ref 0), (1, .int x), (2, .int k)]) (st' := [.int 1]) (h' := cMo (wTh M 1)) (P := True) rfl trivial ?_
  refine gW_if_le (gdec_at D_Mo_sectionOf 14 rfl) (tgt := 33) rfl (fun cq => absurd cq (by decide)) (fun _ => ?_)
  refine gW_b D_Mo_sectionOf 15 2 (pc' := 39) (l' := [(0, .ref 0), (1, .int x), (2, .int k)]) (st' := [.int 0]) (h' := cMo (wTh M 1)) (P := True) rfl trivial ?_
  exact gW_iret (gdec_at D_Mo_sectionOf 21 rfl) rfl rfl (Nat.le_of_ble_eq_true rfl) ⟨rfl, rfl⟩ (Nat.le_of_ble_eq_true rfl) (Nat.le_of_ble_eq_true rfl)
theorem k_wanted (M : gMo) (t : Nat) (hs : dSz (mD M) ≤ 10) {sc : Nat × (Nat → Int32)} {n0 : Nat} {E : gO → gH → Prop} (kk : gW K_Mo_wanted sc { frames := 1, locals := 22, cells := 0, slots := 0 } n0 E 0 0 44 [(0, .ref 0), (1, .int (nI t)), (2, .int (wtc (dG (mD M)) (nI t) (dSz (mD M)))), (3, .int (nI (dSz (mD M))))] [] (cMo M)) : ∀ (n i : Nat), i + n = dSz (mD M) → gW K_Mo_wanted sc { frames := 1, locals := 22, cells := 0, slots := 0 } n0 E 0 0 4 [(0, .ref 0), (1, .int (nI t)), (2, .int (wtc (dG (mD M)) (nI t) i)), (3, .int (nI i))] [] (cMo M) := by
  intro n
  induction n with
  | zero =>
    intro i hi
    obtain rfl : dSz (mD M) = i := by omega
    refine gW_b D_Mo_wanted 4 5 (pc' := 12) (l' := [(0, .ref 0), (1, .int (nI t)), (2, .int (wtc (dG (mD M)) (nI t) (dSz (mD M)))), (3, .int (nI (dSz (mD M))))]) (st' := [.int (nI (dSz (mD M))), .int (nI (dSz (mD M)))]) (h' := cMo M) (P := vp_in 52 103 ∧ True) rfl ⟨(gvl 52 103 (by omega) (by omega)), trivial⟩ ?_
    refine gW_ic_ge (gdec_at D_Mo_wanted 9 rfl) (tgt := 44) rfl (fun _ => ?_) (fun cq => absurd ((gle (rfl : nI (dSz (mD M)) = nI (dSz (mD M))) (rfl : nI (dSz (mD M)) = nI (dSz (mD M))) (by omega) (by omega)).mpr (by omega)) cq)
    exact kk
  | succ n ih =>
    intro i hi
    refine gW_b D_Mo_wanted 4 5 (pc' := 12) (l' := [(0, .ref 0), (1, .int (nI t)), (2, .int (wtc (dG (mD M)) (nI t) i)), (3, .int (nI i))]) (st' := [.int (nI (dSz (mD M))), .int (nI i)]) (h' := cMo M) (P := vp_in 52 103 ∧ True) rfl ⟨(gvl 52 103 (by omega) (by omega)), trivial⟩ ?_
    refine gW_ic_ge (gdec_at D_Mo_wanted 9 rfl) (tgt := 44) rfl (fun cq => absurd cq (mt (gle (rfl : nI (dSz (mD M)) = nI (dSz (mD M))) (rfl : nI i = nI i) (by omega) (by omega)).mp (by omega))) (fun _ => ?_)
    refine gW_b D_Mo_wanted 10 4 (pc' := 19) (l' := [(0, .ref 0), (1, .int (nI t)), (2, .int (wtc (dG (mD M)) (nI t) i)), (3, .int (nI i))]) (st' := [.int 1, .int (nI i), .ref 0, .int (wtc (dG (mD M)) (nI t) i)]) (h' := cMo M) (P := True) rfl trivial ?_
    refine gW_callV (n_its M i 1 (by omega) (by omega)) lk_Mo_75 [0, 1, 2, 3, 4, 5, 6] (gdec_at D_Mo_wanted 14 rfl) (st := [.int (wtc (dG (mD M)) (nI t) i)]) rfl rfl ⟨rfl, rfl⟩ (Nat.le_of_ble_eq_true rfl) rfl (by decide) rfl (Nat.le_of_ble_eq_true rfl) ⟨Nat.le_of_ble_eq_true rfl, Nat.le_of_ble_eq_true rfl⟩ ⟨Nat.le_of_ble_eq_true rfl, Nat.le_of_ble_eq_true rfl⟩ (gAft_r rfl rfl (h' := cMo M) (st' := [.int ((dG (mD M)) (i * 5 + 1)), .int (wtc (dG (mD M)) (nI t) i)]) (pc' := 22) (cs' := 0) (ss' := 0) rfl rfl rfl rfl rfl ?_)
    refine gW_b D_Mo_wanted 15 1 (pc' := 23) (l' := [(0, .ref 0), (1, .int (nI t)), (2, .int (wtc (dG (mD M)) (nI t) i)), (3, .int (nI i))]) (st' := [.int (nI t), .int ((dG (mD M)) (i * 5 + 1)), .int (wtc (dG (mD M)) (nI t) i)]) (h' := cMo M) (P := True) rfl trivial ?_
    refine gW_ic_ne (gdec_at D_Mo_wanted 16 rfl) (tgt := 35) rfl (fun c => ?_) (fun c => ?_)
    · skip
      refine gW_b D_Mo_wanted 22 5 (pc' := 4) (l' := [(0, .ref 0), (1, .int (nI t)), (2, .int ((wtc (dG (mD M)) (nI t) i) + 0)), (3, .int ((nI i) + 1))]) (st' := []) (h' := cMo M) (P := True) rfl trivial ?_
      rw [show ((nI i) + 1 : Int32) = nI (i + 1) from (gadd (rfl : nI i = nI i) (gk 1))]
      rw [show wtc (dG (mD M)) (nI t) i + 0 = wtc (dG (mD M)) (nI t) (i + 1) from by rw [Int32.add_zero]; exact (if_neg c).symm]
      exact ih (i + 1) (by omega)
    · skip
      refine gW_b D_Mo_wanted 17 3 (pc' := 29) (l' := [(0, .ref 0), (1, .int (nI t)), (2, .int (wtc (dG (mD M)) (nI t) i)), (3, .int (nI i))]) (st' := [.int 2, .int (nI i), .ref 0, .int (wtc (dG (mD M)) (nI t) i)]) (h' := cMo M) (P := True) rfl trivial ?_
      refine gW_callV (n_its M i 2 (by omega) (by omega)) lk_Mo_75 [0, 1, 2, 3, 4, 5, 6] (gdec_at D_Mo_wanted 20 rfl) (st := [.int (wtc (dG (mD M)) (nI t) i)]) rfl rfl ⟨rfl, rfl⟩ (Nat.le_of_ble_eq_true rfl) rfl (by decide) rfl (Nat.le_of_ble_eq_true rfl) ⟨Nat.le_of_ble_eq_true rfl, Nat.le_of_ble_eq_true rfl⟩ ⟨Nat.le_of_ble_eq_true rfl, Nat.le_of_ble_eq_true rfl⟩ (gAft_r rfl rfl (h' := cMo M) (st' := [.int ((dG (mD M)) (i * 5 + 2)), .int (wtc (dG (mD M)) (nI t) i)]) (pc' := 32) (cs' := 0) (ss' := 0) rfl rfl rfl rfl rfl ?_)
      refine gW_b D_Mo_wanted 21 1 (pc' := 36) (l' := [(0, .ref 0), (1, .int (nI t)), (2, .int (wtc (dG (mD M)) (nI t) i)), (3, .int (nI i))]) (st' := [.int ((dG (mD M)) (i * 5 + 2)), .int (wtc (dG (mD M)) (nI t) i)]) (h' := cMo M) (P := True) rfl trivial ?_
      refine gW_b D_Mo_wanted 23 4 (pc' := 4) (l' := [(0, .ref 0), (1, .int (nI t)), (2, .int ((wtc (dG (mD M)) (nI t) i) + ((dG (mD M)) (i * 5 + 2)))), (3, .int ((nI i) + 1))]) (st' := []) (h' := cMo M) (P := True) rfl trivial ?_
      rw [show ((nI i) + 1 : Int32) = nI (i + 1) from (gadd (rfl : nI i = nI i) (gk 1))]
      rw [show wtc (dG (mD M)) (nI t) i + dG (mD M) (i * 5 + 2) = wtc (dG (mD M)) (nI t) (i + 1) from (if_pos c).symm]
      exact ih (i + 1) (by omega)
theorem n_wanted (M : gMo) (t : Nat) (hs : dSz (mD M) ≤ 10) : gM K_Mo_wanted { frames := 1, locals := 22, cells := 0, slots := 0 } [.ref 0, .int (nI t)] (cMo M) (gD (.inl (some (.int (wtc (dG (mD M)) (nI t) (dSz (mD M)))))) (cMo M)) := by
  refine gM_of rfl rfl (Nat.le_of_ble_eq_true rfl) (fun sc => ?_)
  refine gW_b D_Mo_wanted 0 4 (pc' := 4) (l' := [(0, .ref 0), (1, .int (nI t)), (2, .int 0), (3, .int 0)]) (st' := []) (h' := cMo M) (P := True) rfl trivial ?_
  refine k_wanted M t hs ?_ (dSz (mD M)) 0 (Nat.zero_add _)
  refine gW_b D_Mo_wanted 27 1 (pc' := 45) (l' := [(0, .ref 0), (1, .int (nI t)), (2, .int (wtc (dG (mD M)) (nI t) (dSz (mD M)))), (3, .int (nI (dSz (mD M))))]) (st' := [.int (wtc (dG (mD M)) (nI t) (dSz (mD M)))]) (h' := cMo M) (P := True) rfl trivial ?_
  exact gW_iret (gdec_at D_Mo_wanted 28 rfl) rfl rfl (Nat.le_of_ble_eq_true rfl) ⟨rfl, rfl⟩ (Nat.le_of_ble_eq_true rfl) (Nat.le_of_ble_eq_true rfl)
theorem n_toldTone_0 (M : gMo) (hs : dSz (mD M) ≤ 10) (t : Nat) (ht : t < 4) : gM K_Mo_toldTone { frames := 3, locals := 69, cells := 0, slots := 0 } [.ref 0, .int (nI t), .int 0] (cMo M) (gD (.inl (some (.int (dSh (mD M) t)))) (cMo M)) := by
  refine gM_of rfl rfl (Nat.le_of_ble_eq_true rfl) (fun sc => ?_)
  refine gW_b D_Mo_toldTone 0 1 (pc' := 1) (l' := [(0, .ref 0), (1, .int (nI t)), (2, .int 0)]) (st' := [.int 0]) (h' := cMo M) (P := True) rfl trivial ?_
  refine gW_tin S_Mo_toldTone_1 (tgt := 40) (by decide) (by decide) (off := 39) (by decide) rfl ?_
  refine gW_b D_Mo_toldTone 1 6 (pc' := 48) (l' := [(0, .ref 0), (1, .int (nI t)), (2, .int 0)]) (st' := [.int (zD (mD M) (0 + (nI t)).toNatClampNeg)]) (h' := cMo M) (P := vp_in (0 + (nI t)) 103 ∧ True) rfl ⟨(gvin (gadd (gk 0) (rfl : nI t = nI t)) (by omega) (by omega)), trivial⟩ ?_
  rw [show (0 + (nI t)).toNatClampNeg = (0 + t) from gclp (gadd (gk 0) (rfl : nI t = nI t)) (by omega)]
  rw [show (zD (mD M) (0 + t) : Int32) = (dSh (mD M)) (t) from zr_sh (mD M) t (by omega)]
  exact gW_iret (gdec_at D_Mo_toldTone 7 rfl) rfl rfl (Nat.le_of_ble_eq_true rfl) ⟨rfl, rfl⟩ (Nat.le_of_ble_eq_true rfl) (Nat.le_of_ble_eq_true rfl)
theorem n_toldTone_1 (M : gMo) (hs : dSz (mD M) ≤ 10) (t : Nat) (ht : t < 4) : gM K_Mo_toldTone { frames := 3, locals := 69, cells := 0, slots := 0 } [.ref 0, .int (nI t), .int 1] (cMo M) (gD (.inl (some (.int (hO (dTr (mD M)) t)))) (cMo M)) := by
  refine gM_of rfl rfl (Nat.le_of_ble_eq_true rfl) (fun sc => ?_)
  refine gW_b D_Mo_toldTone 0 1 (pc' := 1) (l' := [(0, .ref 0), (1, .int (nI t)), (2, .int 1)]) (st' := [.int 1]) (h' := cMo M) (P := True) rfl trivial ?_
  refine gW_tin S_Mo_toldTone_1 (tgt := 49) (by decide) (by decide) (off := 48) (by decide) rfl ?_
  refine gW_b D_Mo_toldTone 8 4 (pc' := 53) (l' := [(0, .ref 0), (1, .int (nI t)), (2, .int 1)]) (st' := [.int 2, .int 1, .int (nI t), .ref 0]) (h' := cMo M) (P := True) rfl trivial ?_
  refine gW_ic_ne (gdec_at D_Mo_toldTone 12 rfl) (tgt := 60) rfl (fun _ => ?_) (fun cq => absurd cq (by decide))
  refine gW_b D_Mo_toldTone 15 1 (pc' := 61) (l' := [(0, .ref 0), (1, .int (nI t)), (2, .int 1)]) (st' := [.int 0, .int (nI t), .ref 0]) (h' := cMo M) (P := True) rfl trivial ?_
  refine gW_callV (n_inTrays_a M t (by omega)) lk_Mo_101 [0, 1, 2, 3, 4, 5, 6] (gdec_at D_Mo_toldTone 16 rfl) (st := []) rfl rfl ⟨rfl, rfl⟩ (Nat.le_of_ble_eq_true rfl) rfl (by decide) rfl (Nat.le_of_ble_eq_true rfl) ⟨Nat.le_of_ble_eq_true rfl, Nat.le_of_ble_eq_true rfl⟩ ⟨Nat.le_of_ble_eq_true rfl, Nat.le_of_ble_eq_true rfl⟩ (gAft_r rfl rfl (h' := cMo M) (st' := [.int (hO (dTr (mD M)) t)]) (pc' := 64) (cs' := 0) (ss' := 0) rfl rfl rfl rfl rfl ?_)
  exact gW_iret (gdec_at D_Mo_toldTone 17 rfl) rfl rfl (Nat.le_of_ble_eq_true rfl) ⟨rfl, rfl⟩ (Nat.le_of_ble_eq_true rfl) (Nat.le_of_ble_eq_true rfl)
theorem n_toldTone_2 (M : gMo) (hs : dSz (mD M) ≤ 10) (t : Nat) (ht : t < 4) : gM K_Mo_toldTone { frames := 3, locals := 69, cells := 0, slots := 0 } [.ref 0, .int (nI t), .int 2] (cMo M) (gD (.inl (some (.int (rpI (dTr (mD M)) t 6)))) (cMo M)) := by
  refine gM_of rfl rfl (Nat.le_of_ble_eq_true rfl) (fun sc => ?_)
  refine gW_b D_Mo_toldTone 0 1 (pc' := 1) (l' := [(0, .ref 0), (1, .int (nI t)), (2, .int 2)]) (st' := [.int 2]) (h' := cMo M) (P := True) rfl trivial ?_
  refine gW_tin S_Mo_toldTone_1 (tgt := 49) (by decide) (by decide) (off := 48) (by decide) rfl ?_
  refine gW_b D_Mo_toldTone 8 4 (pc' := 53) (l' := [(0, .ref 0), (1, .int (nI t)), (2, .int 2)]) (st' := [.int 2, .int 2, .int (nI t), .ref 0]) (h' := cMo M) (P := True) rfl trivial ?_
  refine gW_ic_ne (gdec_at D_Mo_toldTone 12 rfl) (tgt := 60) rfl (fun cq => absurd (by decide) cq) (fun _ => ?_)
  refine gW_b D_Mo_toldTone 13 2 (pc' := 61) (l' := [(0, .ref 0), (1, .int (nI t)), (2, .int 2)]) (st' := [.int 1, .int (nI t), .ref 0]) (h' := cMo M) (P := True) rfl trivial ?_
  refine gW_callV (n_inTrays_p M t (by omega)) lk_Mo_101 [0, 1, 2, 3, 4, 5, 6] (gdec_at D_Mo_toldTone 16 rfl) (st := []) rfl rfl ⟨rfl, rfl⟩ (Nat.le_of_ble_eq_true rfl) rfl (by decide) rfl (Nat.le_of_ble_eq_true rfl) ⟨Nat.le_of_ble_eq_true rfl, Nat.le_of_ble_eq_true rfl⟩ ⟨Nat.le_of_ble_eq_true rfl, Nat.le_of_ble_eq_true rfl⟩ (gAft_r rfl rfl (h' := cMo M) (st' := [.int (rpI (dTr (mD M)) t 6)]) (pc' := 64) (cs' := 0) (ss' := 0) rfl rfl rfl rfl rfl ?_)
  exact gW_iret (gdec_at D_Mo_toldTone 17 rfl) rfl rfl (Nat.le_of_ble_eq_true rfl) ⟨rfl, rfl⟩ (Nat.le_of_ble_eq_true rfl) (Nat.le_of_ble_eq_true rfl)
theorem n_toldTone_3 (M : gMo) (hs : dSz (mD M) ≤ 10) (t : Nat) (ht : t < 4) : gM K_Mo_toldTone { frames := 3, locals := 69, cells := 0, slots := 0 } [.ref 0, .int (nI t), .int 3] (cMo M) (gD (.inl (some (.int (dCu (mD M) t)))) (cMo M)) := by
  refine gM_of rfl rfl (Nat.le_of_ble_eq_true rfl) (fun sc => ?_)
  refine gW_b D_Mo_toldTone 0 1 (pc' := 1) (l' := [(0, .ref 0), (1, .int (nI t)), (2, .int 3)]) (st' := [.int 3]) (h' := cMo M) (P := True) rfl trivial ?_
  refine gW_tin S_Mo_toldTone_1 (tgt := 65) (by decide) (by decide) (off := 64) (by decide) rfl ?_
  refine gW_b D_Mo_toldTone 18 6 (pc' := 74) (l' := [(0, .ref 0), (1, .int (nI t)), (2, .int 3)]) (st' := [.int (zD (mD M) (39 + (nI t)).toNatClampNeg)]) (h' := cMo M) (P := vp_in (39 + (nI t)) 103 ∧ True) rfl ⟨(gvin (gadd (gk 39) (rfl : nI t = nI t)) (by omega) (by omega)), trivial⟩ ?_
  rw [show (39 + (nI t)).toNatClampNeg = (39 + t) from gclp (gadd (gk 39) (rfl : nI t = nI t)) (by omega)]
  rw [show (zD (mD M) (39 + t) : Int32) = (dCu (mD M)) (t) from zr_cu (mD M) t (by omega)]
  exact gW_iret (gdec_at D_Mo_toldTone 24 rfl) rfl rfl (Nat.le_of_ble_eq_true rfl) ⟨rfl, rfl⟩ (Nat.le_of_ble_eq_true rfl) (Nat.le_of_ble_eq_true rfl)
theorem n_toldTone_4 (M : gMo) (hs : dSz (mD M) ≤ 10) (t : Nat) (ht : t < 4) : gM K_Mo_toldTone { frames := 3, locals := 69, cells := 0, slots := 0 } [.ref 0, .int (nI t), .int 4] (cMo M) (gD (.inl (some (.int (dLa (mD M) t)))) (cMo M)) := by
  refine gM_of rfl rfl (Nat.le_of_ble_eq_true rfl) (fun sc => ?_)
  refine gW_b D_Mo_toldTone 0 1 (pc' := 1) (l' := [(0, .ref 0), (1, .int (nI t)), (2, .int 4)]) (st' := [.int 4]) (h' := cMo M) (P := True) rfl trivial ?_
  refine gW_tin S_Mo_toldTone_1 (tgt := 75) (by decide) (by decide) (off := 74) (by decide) rfl ?_
  refine gW_b D_Mo_toldTone 25 6 (pc' := 84) (l' := [(0, .ref 0), (1, .int (nI t)), (2, .int 4)]) (st' := [.int (zD (mD M) (47 + (nI t)).toNatClampNeg)]) (h' := cMo M) (P := vp_in (47 + (nI t)) 103 ∧ True) rfl ⟨(gvin (gadd (gk 47) (rfl : nI t = nI t)) (by omega) (by omega)), trivial⟩ ?_
  rw [show (47 + (nI t)).toNatClampNeg = (47 + t) from gclp (gadd (gk 47) (rfl : nI t = nI t)) (by omega)]
  rw [show (zD (mD M) (47 + t) : Int32) = (dLa (mD M)) (t) from zr_la (mD M) t (by omega)]
  exact gW_iret (gdec_at D_Mo_toldTone 31 rfl) rfl rfl (Nat.le_of_ble_eq_true rfl) ⟨rfl, rfl⟩ (Nat.le_of_ble_eq_true rfl) (Nat.le_of_ble_eq_true rfl)
theorem n_toldTone_5 (M : gMo) (hs : dSz (mD M) ≤ 10) (t : Nat) (ht : t < 4) : gM K_Mo_toldTone { frames := 3, locals := 69, cells := 0, slots := 0 } [.ref 0, .int (nI t), .int 5] (cMo M) (gD (.inl (some (.int (dSw (mD M) t)))) (cMo M)) := by
  refine gM_of rfl rfl (Nat.le_of_ble_eq_true rfl) (fun sc => ?_)
  refine gW_b D_Mo_toldTone 0 1 (pc' := 1) (l' := [(0, .ref 0), (1, .int (nI t)), (2, .int 5)]) (st' := [.int 5]) (h' := cMo M) (P := True) rfl trivial ?_
  refine gW_tin S_Mo_toldTone_1 (tgt := 85) (by decide) (by decide) (off := 84) (by decide) rfl ?_
  refine gW_b D_Mo_toldTone 32 6 (pc' := 94) (l' := [(0, .ref 0), (1, .int (nI t)), (2, .int 5)]) (st' := [.int (zD (mD M) (43 + (nI t)).toNatClampNeg)]) (h' := cMo M) (P := vp_in (43 + (nI t)) 103 ∧ True) rfl ⟨(gvin (gadd (gk 43) (rfl : nI t = nI t)) (by omega) (by omega)), trivial⟩ ?_
  rw [show (43 + (nI t)).toNatClampNeg = (43 + t) from gclp (gadd (gk 43) (rfl : nI t = nI t)) (by omega)]
  rw [show (zD (mD M) (43 + t) : Int32) = (dSw (mD M)) (t) from zr_sw (mD M) t (by omega)]
  exact gW_iret (gdec_at D_Mo_toldTone 38 rfl) rfl rfl (Nat.le_of_ble_eq_true rfl) ⟨rfl, rfl⟩ (Nat.le_of_ble_eq_true rfl) (Nat.le_of_ble_eq_true rfl)
theorem n_toldTone_6 (M : gMo) (hs : dSz (mD M) ≤ 10) (t : Nat) (ht : t < 4) : gM K_Mo_toldTone { frames := 3, locals := 69, cells := 0, slots := 0 } [.ref 0, .int (nI t), .int 6] (cMo M) (gD (.inl (some (.int (wtc (dG (mD M)) (nI t) (dSz (mD M)))))) (cMo M)) := by
  refine gM_of rfl rfl (Nat.le_of_ble_eq_true rfl) (fun sc => ?_)
  refine gW_b D_Mo_toldTone 0 1 (pc' := 1) (l' := [(0, .ref 0), (1, .int (nI t)), (2, .int 6)]) (st' := [.int 6]) (h' := cMo M) (P := True) rfl trivial ?_
  refine gW_tout S_Mo_toldTone_1 (tgt := 95) (by decide) rfl ?_
  refine gW_b D_Mo_toldTone 39 2 (pc' := 97) (l' := [(0, .ref 0), (1, .int (nI t)), (2, .int 6)]) (st' := [.int (nI t), .ref 0]) (h' := cMo M) (P := True) rfl trivial ?_
  refine gW_callV (n_wanted M t hs) lk_Mo_160 [0, 1, 2, 3, 4, 5, 6] (gdec_at D_Mo_toldTone 41 rfl) (st := []) rfl rfl ⟨rfl, rfl⟩ (Nat.le_of_ble_eq_true rfl) rfl (by decide) rfl (Nat.le_of_ble_eq_true rfl) ⟨Nat.le_of_ble_eq_true rfl, Nat.le_of_ble_eq_true rfl⟩ ⟨Nat.le_of_ble_eq_true rfl, Nat.le_of_ble_eq_true rfl⟩ (gAft_r rfl rfl (h' := cMo M) (st' := [.int (wtc (dG (mD M)) (nI t) (dSz (mD M)))]) (pc' := 100) (cs' := 0) (ss' := 0) rfl rfl rfl rfl rfl ?_)
  exact gW_iret (gdec_at D_Mo_toldTone 42 rfl) rfl rfl (Nat.le_of_ble_eq_true rfl) ⟨rfl, rfl⟩ (Nat.le_of_ble_eq_true rfl) (Nat.le_of_ble_eq_true rfl)
theorem n_tone_0 (M : gMo) (hs : dSz (mD M) ≤ 10) (t : Nat) (ht : t < 4) : gM K_Mo_tone { frames := 4, locals := 91, cells := 0, slots := 0 } [.ref 0, .int (nI t), .int 0] (cMo M) (gD (.inl (some (.int (dSh (mD M) t)))) (cMo (wTh M 0))) := by
  refine gM_of rfl rfl (Nat.le_of_ble_eq_true rfl) (fun sc => ?_)
  refine gW_b D_Mo_tone 0 2 (pc' := 2) (l' := [(0, .ref 0), (1, .int (nI t)), (2, .int 0)]) (st' := [.int (nI t), .ref 0]) (h' := cMo M) (P := True) rfl trivial ?_
  refine gW_callS (n_isTone_t t (by omega)) lk_Mo_58 [] (gdec_at D_Mo_tone 2 rfl) (st := [.ref 0]) rfl rfl ⟨rfl, rfl⟩ (Nat.le_of_ble_eq_true rfl) (Nat.le_of_ble_eq_true rfl) ⟨Nat.le_of_ble_eq_true rfl, Nat.le_of_ble_eq_true rfl⟩ ⟨Nat.le_of_ble_eq_true rfl, Nat.le_of_ble_eq_true rfl⟩ (gAft_r rfl rfl (h' := cMo M) (st' := [.int 1, .ref 0]) (pc' := 5) (cs' := 0) (ss' := 0) rfl rfl rfl rfl rfl ?_)
  refine gW_if_ne (gdec_at D_Mo_tone 3 rfl) (tgt := 12) rfl (fun _ => ?_) (fun cq => absurd cq (by decide))
  refine gW_b D_Mo_tone 6 3 (pc' := 16) (l' := [(0, .ref 0), (1, .int (nI t)), (2, .int 0)]) (st' := [.int 6, .int 0, .int 0, .ref 0]) (h' := cMo M) (P := True) rfl trivial ?_
  refine gW_callS (n_in_t 0 0 6 (by decide) (by decide)) lk_Mo_32 [] (gdec_at D_Mo_tone 9 rfl) (st := [.ref 0]) rfl rfl ⟨rfl, rfl⟩ (Nat.le_of_ble_eq_true rfl) (Nat.le_of_ble_eq_true rfl) ⟨Nat.le_of_ble_eq_true rfl, Nat.le_of_ble_eq_true rfl⟩ ⟨Nat.le_of_ble_eq_true rfl, Nat.le_of_ble_eq_true rfl⟩ (gAft_r rfl rfl (h' := cMo M) (st' := [.int 1, .ref 0]) (pc' := 19) (cs' := 0) (ss' := 0) rfl rfl rfl rfl rfl ?_)
  refine gW_if_eq (gdec_at D_Mo_tone 10 rfl) (tgt := 26) rfl (fun cq => absurd cq (by decide)) (fun _ => ?_)
  refine gW_b D_Mo_tone 11 2 (pc' := 27) (l' := [(0, .ref 0), (1, .int (nI t)), (2, .int 0)]) (st' := [.int 0, .ref 0]) (h' := cMo M) (P := True) rfl trivial ?_
  refine gW_b D_Mo_tone 14 3 (pc' := 34) (l' := [(0, .ref 0), (1, .int (nI t)), (2, .int 0)]) (st' := [.int 0]) (h' := cMo (wTh M 0)) (P := True) rfl trivial ?_
  refine gW_if_le (gdec_at D_Mo_tone 17 rfl) (tgt := 41) rfl (fun _ => ?_) (fun cq => absurd (by decide) cq)
  refine gW_b D_Mo_tone 20 3 (pc' := 44) (l' := [(0, .ref 0), (1, .int (nI t)), (2, .int 0)]) (st' := [.int 0, .int (nI t), .ref 0]) (h' := cMo (wTh M 0)) (P := True) rfl trivial ?_
  refine gW_callV (n_toldTone_0 (wTh M 0) hs t (by omega)) lk_Mo_163 [0, 1, 2, 3, 4, 5, 6] (gdec_at D_Mo_tone 23 rfl) (st := []) rfl rfl ⟨rfl, rfl⟩ (Nat.le_of_ble_eq_true rfl) rfl (by decide) rfl (Nat.le_of_ble_eq_true rfl) ⟨Nat.le_of_ble_eq_true rfl, Nat.le_of_ble_eq_true rfl⟩ ⟨Nat.le_of_ble_eq_true rfl, Nat.le_of_ble_eq_true rfl⟩ (gAft_r rfl rfl (h' := cMo (wTh M 0)) (st' := [.int (dSh (mD M) t)]) (pc' := 47) (cs' := 0) (ss' := 0) rfl rfl rfl rfl rfl ?_)
  exact gW_iret (gdec_at D_Mo_tone 24 rfl) rfl rfl (Nat.le_of_ble_eq_true rfl) ⟨rfl, rfl⟩ (Nat.le_of_ble_eq_true rfl) (Nat.le_of_ble_eq_true rfl)
theorem n_tone_1 (M : gMo) (hs : dSz (mD M) ≤ 10) (t : Nat) (ht : t < 4) : gM K_Mo_tone { frames := 4, locals := 91, cells := 0, slots := 0 } [.ref 0, .int (nI t), .int 1] (cMo M) (gD (.inl (some (.int (hO (dTr (mD M)) t)))) (cMo (wTh M 0))) := by
  refine gM_of rfl rfl (Nat.le_of_ble_eq_true rfl) (fun sc => ?_)
  refine gW_b D_Mo_tone 0 2 (pc' := 2) (l' := [(0, .ref 0), (1, .int (nI t)), (2, .int 1)]) (st' := [.int (nI t), .ref 0]) (h' := cMo M) (P := True) rfl trivial ?_
  refine gW_callS (n_isTone_t t (by omega)) lk_Mo_58 [] (gdec_at D_Mo_tone 2 rfl) (st := [.ref 0]) rfl rfl ⟨rfl, rfl⟩ (Nat.le_of_ble_eq_true rfl) (Nat.le_of_ble_eq_true rfl) ⟨Nat.le_of_ble_eq_true rfl, Nat.le_of_ble_eq_true rfl⟩ ⟨Nat.le_of_ble_eq_true rfl, Nat.le_of_ble_eq_true rfl⟩ (gAft_r rfl rfl (h' := cMo M) (st' := [.int 1, .ref 0]) (pc' := 5) (cs' := 0) (ss' := 0) rfl rfl rfl rfl rfl ?_)
  refine gW_if_ne (gdec_at D_Mo_tone 3 rfl) (tgt := 12) rfl (fun _ => ?_) (fun cq => absurd cq (by decide))
  refine gW_b D_Mo_tone 6 3 (pc' := 16) (l' := [(0, .ref 0), (1, .int (nI t)), (2, .int 1)]) (st' := [.int 6, .int 0, .int 1, .ref 0]) (h' := cMo M) (P := True) rfl trivial ?_
  refine gW_callS (n_in_t 1 0 6 (by decide) (by decide)) lk_Mo_32 [] (gdec_at D_Mo_tone 9 rfl) (st := [.ref 0]) rfl rfl ⟨rfl, rfl⟩ (Nat.le_of_ble_eq_true rfl) (Nat.le_of_ble_eq_true rfl) ⟨Nat.le_of_ble_eq_true rfl, Nat.le_of_ble_eq_true rfl⟩ ⟨Nat.le_of_ble_eq_true rfl, Nat.le_of_ble_eq_true rfl⟩ (gAft_r rfl rfl (h' := cMo M) (st' := [.int 1, .ref 0]) (pc' := 19) (cs' := 0) (ss' := 0) rfl rfl rfl rfl rfl ?_)
  refine gW_if_eq (gdec_at D_Mo_tone 10 rfl) (tgt := 26) rfl (fun cq => absurd cq (by decide)) (fun _ => ?_)
  refine gW_b D_Mo_tone 11 2 (pc' := 27) (l' := [(0, .ref 0), (1, .int (nI t)), (2, .int 1)]) (st' := [.int 0, .ref 0]) (h' := cMo M) (P := True) rfl trivial ?_
  refine gW_b D_Mo_tone 14 3 (pc' := 34) (l' := [(0, .ref 0), (1, .int (nI t)), (2, .int 1)]) (st' := [.int 0]) (h' := cMo (wTh M 0)) (P := True) rfl trivial ?_
  refine gW_if_le (gdec_at D_Mo_tone 17 rfl) (tgt := 41) rfl (fun _ => ?_) (fun cq => absurd (by decide) cq)
  refine gW_b D_Mo_tone 20 3 (pc' := 44) (l' := [(0, .ref 0), (1, .int (nI t)), (2, .int 1)]) (st' := [.int 1, .int (nI t), .ref 0]) (h' := cMo (wTh M 0)) (P := True) rfl trivial ?_
  refine gW_callV (n_toldTone_1 (wTh M 0) hs t (by omega)) lk_Mo_163 [0, 1, 2, 3, 4, 5, 6] (gdec_at D_Mo_tone 23 rfl) (st := []) rfl rfl ⟨rfl, rfl⟩ (Nat.le_of_ble_eq_true rfl) rfl (by decide) rfl (Nat.le_of_ble_eq_true rfl) ⟨Nat.le_of_ble_eq_true rfl, Nat.le_of_ble_eq_true rfl⟩ ⟨Nat.le_of_ble_eq_true rfl, Nat.le_of_ble_eq_true rfl⟩ (gAft_r rfl rfl (h' := cMo (wTh M 0)) (st' := [.int (hO (dTr (mD M)) t)]) (pc' := 47) (cs' := 0) (ss' := 0) rfl rfl rfl rfl rfl ?_)
  exact gW_iret (gdec_at D_Mo_tone 24 rfl) rfl rfl (Nat.le_of_ble_eq_true rfl) ⟨rfl, rfl⟩ (Nat.le_of_ble_eq_true rfl) (Nat.le_of_ble_eq_true rfl)
theorem n_tone_2 (M : gMo) (hs : dSz (mD M) ≤ 10) (t : Nat) (ht : t < 4) : gM K_Mo_tone { frames := 4, locals := 91, cells := 0, slots := 0 } [.ref 0, .int (nI t), .int 2] (cMo M) (gD (.inl (some (.int (rpI (dTr (mD M)) t 6)))) (cMo (wTh M 0))) := by
  refine gM_of rfl rfl (Nat.le_of_ble_eq_true rfl) (fun sc => ?_)
  refine gW_b D_Mo_tone 0 2 (pc' := 2) (l' := [(0, .ref 0), (1, .int (nI t)), (2, .int 2)]) (st' := [.int (nI t), .ref 0]) (h' := cMo M) (P := True) rfl trivial ?_
  refine gW_callS (n_isTone_t t (by omega)) lk_Mo_58 [] (gdec_at D_Mo_tone 2 rfl) (st := [.ref 0]) rfl rfl ⟨rfl, rfl⟩ (Nat.le_of_ble_eq_true rfl) (Nat.le_of_ble_eq_true rfl) ⟨Nat.le_of_ble_eq_true rfl, Nat.le_of_ble_eq_true rfl⟩ ⟨Nat.le_of_ble_eq_true rfl, Nat.le_of_ble_eq_true rfl⟩ (gAft_r rfl rfl (h' := cMo M) (st' := [.int 1, .ref 0]) (pc' := 5) (cs' := 0) (ss' := 0) rfl rfl rfl rfl rfl ?_)
  refine gW_if_ne (gdec_at D_Mo_tone 3 rfl) (tgt := 12) rfl (fun _ => ?_) (fun cq => absurd cq (by decide))
  refine gW_b D_Mo_tone 6 3 (pc' := 16) (l' := [(0, .ref 0), (1, .int (nI t)), (2, .int 2)]) (st' := [.int 6, .int 0, .int 2, .ref 0]) (h' := cMo M) (P := True) rfl trivial ?_
  refine gW_callS (n_in_t 2 0 6 (by decide) (by decide)) lk_Mo_32 [] (gdec_at D_Mo_tone 9 rfl) (st := [.ref 0]) rfl rfl ⟨rfl, rfl⟩ (Nat.le_of_ble_eq_true rfl) (Nat.le_of_ble_eq_true rfl) ⟨Nat.le_of_ble_eq_true rfl, Nat.le_of_ble_eq_true rfl⟩ ⟨Nat.le_of_ble_eq_true rfl, Nat.le_of_ble_eq_true rfl⟩ (gAft_r rfl rfl (h' := cMo M) (st' := [.int 1, .ref 0]) (pc' := 19) (cs' := 0) (ss' := 0) rfl rfl rfl rfl rfl ?_)
  refine gW_if_eq (gdec_at D_Mo_tone 10 rfl) (tgt := 26) rfl (fun cq => absurd cq (by decide)) (fun _ => ?_)
  refine gW_b D_Mo_tone 11 2 (pc' := 27) (l' := [(0, .ref 0), (1, .int (nI t)), (2, .int 2)]) (st' := [.int 0, .ref 0]) (h' := cMo M) (P := True) rfl trivial ?_
  refine gW_b D_Mo_tone 14 3 (pc' := 34) (l' := [(0, .ref 0), (1, .int (nI t)), (2, .int 2)]) (st' := [.int 0]) (h' := cMo (wTh M 0)) (P := True) rfl trivial ?_
  refine gW_if_le (gdec_at D_Mo_tone 17 rfl) (tgt := 41) rfl (fun _ => ?_) (fun cq => absurd (by decide) cq)
  refine gW_b D_Mo_tone 20 3 (pc' := 44) (l' := [(0, .ref 0), (1, .int (nI t)), (2, .int 2)]) (st' := [.int 2, .int (nI t), .ref 0]) (h' := cMo (wTh M 0)) (P := True) rfl trivial ?_
  refine gW_callV (n_toldTone_2 (wTh M 0) hs t (by omega)) lk_Mo_163 [0, 1, 2, 3, 4, 5, 6] (gdec_at D_Mo_tone 23 rfl) (st := []) rfl rfl ⟨rfl, rfl⟩ (Nat.le_of_ble_eq_true rfl) rfl (by decide) rfl (Nat.le_of_ble_eq_true rfl) ⟨Nat.le_of_ble_eq_true rfl, Nat.le_of_ble_eq_true rfl⟩ ⟨Nat.le_of_ble_eq_true rfl, Nat.le_of_ble_eq_true rfl⟩ (gAft_r rfl rfl (h' := cMo (wTh M 0)) (st' := [.int (rpI (dTr (mD M)) t 6)]) (pc' := 47) (cs' := 0) (ss' := 0) rfl rfl rfl rfl rfl ?_)
  exact gW_iret (gdec_at D_Mo_tone 24 rfl) rfl rfl (Nat.le_of_ble_eq_true rfl) ⟨rfl, rfl⟩ (Nat.le_of_ble_eq_true rfl) (Nat.le_of_ble_eq_true rfl)
theorem n_tone_3 (M : gMo) (hs : dSz (mD M) ≤ 10) (t : Nat) (ht : t < 4) : gM K_Mo_tone { frames := 4, locals := 91, cells := 0, slots := 0 } [.ref 0, .int (nI t), .int 3] (cMo M) (gD (.inl (some (.int (dCu (mD M) t)))) (cMo (wTh M 0))) := by
  refine gM_of rfl rfl (Nat.le_of_ble_eq_true rfl) (fun sc => ?_)
  refine gW_b D_Mo_tone 0 2 (pc' := 2) (l' := [(0, .ref 0), (1, .int (nI t)), (2, .int 3)]) (st' := [.int (nI t), .ref 0]) (h' := cMo M) (P := True) rfl trivial ?_
  refine gW_callS (n_isTone_t t (by omega)) lk_Mo_58 [] (gdec_at D_Mo_tone 2 rfl) (st := [.ref 0]) rfl rfl ⟨rfl, rfl⟩ (Nat.le_of_ble_eq_true rfl) (Nat.le_of_ble_eq_true rfl) ⟨Nat.le_of_ble_eq_true rfl, Nat.le_of_ble_eq_true rfl⟩ ⟨Nat.le_of_ble_eq_true rfl, Nat.le_of_ble_eq_true rfl⟩ (gAft_r rfl rfl (h' := cMo M) (st' := [.int 1, .ref 0]) (pc' := 5) (cs' := 0) (ss' := 0) rfl rfl rfl rfl rfl ?_)
  refine gW_if_ne (gdec_at D_Mo_tone 3 rfl) (tgt := 12) rfl (fun _ => ?_) (fun cq => absurd cq (by decide))
  refine gW_b D_Mo_tone 6 3 (pc' := 16) (l' := [(0, .ref 0), (1, .int (nI t)), (2, .int 3)]) (st' := [.int 6, .int 0, .int 3, .ref 0]) (h' := cMo M) (P := True) rfl trivial ?_
  refine gW_callS (n_in_t 3 0 6 (by decide) (by decide)) lk_Mo_32 [] (gdec_at D_Mo_tone 9 rfl) (st := [.ref 0]) rfl rfl ⟨rfl, rfl⟩ (Nat.le_of_ble_eq_true rfl) (Nat.le_of_ble_eq_true rfl) ⟨Nat.le_of_ble_eq_true rfl, Nat.le_of_ble_eq_true rfl⟩ ⟨Nat.le_of_ble_eq_true rfl, Nat.le_of_ble_eq_true rfl⟩ (gAft_r rfl rfl (h' := cMo M) (st' := [.int 1, .ref 0]) (pc' := 19) (cs' := 0) (ss' := 0) rfl rfl rfl rfl rfl ?_)
  refine gW_if_eq (gdec_at D_Mo_tone 10 rfl) (tgt := 26) rfl (fun cq => absurd cq (by decide)) (fun _ => ?_)
  refine gW_b D_Mo_tone 11 2 (pc' := 27) (l' := [(0, .ref 0), (1, .int (nI t)), (2, .int 3)]) (st' := [.int 0, .ref 0]) (h' := cMo M) (P := True) rfl trivial ?_
  refine gW_b D_Mo_tone 14 3 (pc' := 34) (l' := [(0, .ref 0), (1, .int (nI t)), (2, .int 3)]) (st' := [.int 0]) (h' := cMo (wTh M 0)) (P := True) rfl trivial ?_
  refine gW_if_le (gdec_at D_Mo_tone 17 rfl) (tgt := 41) rfl (fun _ => ?_) (fun cq => absurd (by decide) cq)
  refine gW_b D_Mo_tone 20 3 (pc' := 44) (l' := [(0, .ref 0), (1, .int (nI t)), (2, .int 3)]) (st' := [.int 3, .int (nI t), .ref 0]) (h' := cMo (wTh M 0)) (P := True) rfl trivial ?_
  refine gW_callV (n_toldTone_3 (wTh M 0) hs t (by omega)) lk_Mo_163 [0, 1, 2, 3, 4, 5, 6] (gdec_at D_Mo_tone 23 rfl) (st := []) rfl rfl ⟨rfl, rfl⟩ (Nat.le_of_ble_eq_true rfl) rfl (by decide) rfl (Nat.le_of_ble_eq_true rfl) ⟨Nat.le_of_ble_eq_true rfl, Nat.le_of_ble_eq_true rfl⟩ ⟨Nat.le_of_ble_eq_true rfl, Nat.le_of_ble_eq_true rfl⟩ (gAft_r rfl rfl (h' := cMo (wTh M 0)) (st' := [.int (dCu (mD M) t)]) (pc' := 47) (cs' := 0) (ss' := 0) rfl rfl rfl rfl rfl ?_)
  exact gW_iret (gdec_at D_Mo_tone 24 rfl) rfl rfl (Nat.le_of_ble_eq_true rfl) ⟨rfl, rfl⟩ (Nat.le_of_ble_eq_true rfl) (Nat.le_of_ble_eq_true rfl)
theorem n_tone_4 (M : gMo) (hs : dSz (mD M) ≤ 10) (t : Nat) (ht : t < 4) : gM K_Mo_tone { frames := 4, locals := 91, cells := 0, slots := 0 } [.ref 0, .int (nI t), .int 4] (cMo M) (gD (.inl (some (.int (dLa (mD M) t)))) (cMo (wTh M 0))) := by
  refine gM_of rfl rfl (Nat.le_of_ble_eq_true rfl) (fun sc => ?_)
  refine gW_b D_Mo_tone 0 2 (pc' := 2) (l' := [(0, .ref 0), (1, .int (nI t)), (2, .int 4)]) (st' := [.int (nI t), .ref 0]) (h' := cMo M) (P := True) rfl trivial ?_
  refine gW_callS (n_isTone_t t (by omega)) lk_Mo_58 [] (gdec_at D_Mo_tone 2 rfl) (st := [.ref 0]) rfl rfl ⟨rfl, rfl⟩ (Nat.le_of_ble_eq_true rfl) (Nat.le_of_ble_eq_true rfl) ⟨Nat.le_of_ble_eq_true rfl, Nat.le_of_ble_eq_true rfl⟩ ⟨Nat.le_of_ble_eq_true rfl, Nat.le_of_ble_eq_true rfl⟩ (gAft_r rfl rfl (h' := cMo M) (st' := [.int 1, .ref 0]) (pc' := 5) (cs' := 0) (ss' := 0) rfl rfl rfl rfl rfl ?_)
  refine gW_if_ne (gdec_at D_Mo_tone 3 rfl) (tgt := 12) rfl (fun _ => ?_) (fun cq => absurd cq (by decide))
  refine gW_b D_Mo_tone 6 3 (pc' := 16) (l' := [(0, .ref 0), (1, .int (nI t)), (2, .int 4)]) (st' := [.int 6, .int 0, .int 4, .ref 0]) (h' := cMo M) (P := True) rfl trivial ?_
  refine gW_callS (n_in_t 4 0 6 (by decide) (by decide)) lk_Mo_32 [] (gdec_at D_Mo_tone 9 rfl) (st := [.ref 0]) rfl rfl ⟨rfl, rfl⟩ (Nat.le_of_ble_eq_true rfl) (Nat.le_of_ble_eq_true rfl) ⟨Nat.le_of_ble_eq_true rfl, Nat.le_of_ble_eq_true rfl⟩ ⟨Nat.le_of_ble_eq_true rfl, Nat.le_of_ble_eq_true rfl⟩ (gAft_r rfl rfl (h' := cMo M) (st' := [.int 1, .ref 0]) (pc' := 19) (cs' := 0) (ss' := 0) rfl rfl rfl rfl rfl ?_)
  refine gW_if_eq (gdec_at D_Mo_tone 10 rfl) (tgt := 26) rfl (fun cq => absurd cq (by decide)) (fun _ => ?_)
  refine gW_b D_Mo_tone 11 2 (pc' := 27) (l' := [(0, .ref 0), (1, .int (nI t)), (2, .int 4)]) (st' := [.int 0, .ref 0]) (h' := cMo M) (P := True) rfl trivial ?_
  refine gW_b D_Mo_tone 14 3 (pc' := 34) (l' := [(0, .ref 0), (1, .int (nI t)), (2, .int 4)]) (st' := [.int 0]) (h' := cMo (wTh M 0)) (P := True) rfl trivial ?_
  refine gW_if_le (gdec_at D_Mo_tone 17 rfl) (tgt := 41) rfl (fun _ => ?_) (fun cq => absurd (by decide) cq)
  refine gW_b D_Mo_tone 20 3 (pc' := 44) (l' := [(0, .ref 0), (1, .int (nI t)), (2, .int 4)]) (st' := [.int 4, .int (nI t), .ref 0]) (h' := cMo (wTh M 0)) (P := True) rfl trivial ?_
  refine gW_callV (n_toldTone_4 (wTh M 0) hs t (by omega)) lk_Mo_163 [0, 1, 2, 3, 4, 5, 6] (gdec_at D_Mo_tone 23 rfl) (st := []) rfl rfl ⟨rfl, rfl⟩ (Nat.le_of_ble_eq_true rfl) rfl (by decide) rfl (Nat.le_of_ble_eq_true rfl) ⟨Nat.le_of_ble_eq_true rfl, Nat.le_of_ble_eq_true rfl⟩ ⟨Nat.le_of_ble_eq_true rfl, Nat.le_of_ble_eq_true rfl⟩ (gAft_r rfl rfl (h' := cMo (wTh M 0)) (st' := [.int (dLa (mD M) t)]) (pc' := 47) (cs' := 0) (ss' := 0) rfl rfl rfl rfl rfl ?_)
  exact gW_iret (gdec_at D_Mo_tone 24 rfl) rfl rfl (Nat.le_of_ble_eq_true rfl) ⟨rfl, rfl⟩ (Nat.le_of_ble_eq_true rfl) (Nat.le_of_ble_eq_true rfl)
theorem n_tone_5 (M : gMo) (hs : dSz (mD M) ≤ 10) (t : Nat) (ht : t < 4) : gM K_Mo_tone { frames := 4, locals := 91, cells := 0, slots := 0 } [.ref 0, .int (nI t), .int 5] (cMo M) (gD (.inl (some (.int (dSw (mD M) t)))) (cMo (wTh M 0))) := by
  refine gM_of rfl rfl (Nat.le_of_ble_eq_true rfl) (fun sc => ?_)
  refine gW_b D_Mo_tone 0 2 (pc' := 2) (l' := [(0, .ref 0), (1, .int (nI t)), (2, .int 5)]) (st' := [.int (nI t), .ref 0]) (h' := cMo M) (P := True) rfl trivial ?_
  refine gW_callS (n_isTone_t t (by omega)) lk_Mo_58 [] (gdec_at D_Mo_tone 2 rfl) (st := [.ref 0]) rfl rfl ⟨rfl, rfl⟩ (Nat.le_of_ble_eq_true rfl) (Nat.le_of_ble_eq_true rfl) ⟨Nat.le_of_ble_eq_true rfl, Nat.le_of_ble_eq_true rfl⟩ ⟨Nat.le_of_ble_eq_true rfl, Nat.le_of_ble_eq_true rfl⟩ (gAft_r rfl rfl (h' := cMo M) (st' := [.int 1, .ref 0]) (pc' := 5) (cs' := 0) (ss' := 0) rfl rfl rfl rfl rfl ?_)
  refine gW_if_ne (gdec_at D_Mo_tone 3 rfl) (tgt := 12) rfl (fun _ => ?_) (fun cq => absurd cq (by decide))
  refine gW_b D_Mo_tone 6 3 (pc' := 16) (l' := [(0, .ref 0), (1, .int (nI t)), (2, .int 5)]) (st' := [.int 6, .int 0, .int 5, .ref 0]) (h' := cMo M) (P := True) rfl trivial ?_
  refine gW_callS (n_in_t 5 0 6 (by decide) (by decide)) lk_Mo_32 [] (gdec_at D_Mo_tone 9 rfl) (st := [.ref 0]) rfl rfl ⟨rfl, rfl⟩ (Nat.le_of_ble_eq_true rfl) (Nat.le_of_ble_eq_true rfl) ⟨Nat.le_of_ble_eq_true rfl, Nat.le_of_ble_eq_true rfl⟩ ⟨Nat.le_of_ble_eq_true rfl, Nat.le_of_ble_eq_true rfl⟩ (gAft_r rfl rfl (h' := cMo M) (st' := [.int 1, .ref 0]) (pc' := 19) (cs' := 0) (ss' := 0) rfl rfl rfl rfl rfl ?_)
  refine gW_if_eq (gdec_at D_Mo_tone 10 rfl) (tgt := 26) rfl (fun cq => absurd cq (by decide)) (fun _ => ?_)
  refine gW_b D_Mo_tone 11 2 (pc' := 27) (l' := [(0, .ref 0), (1, .int (nI t)), (2, .int 5)]) (st' := [.int 0, .ref 0]) (h' := cMo M) (P := True) rfl trivial ?_
  refine gW_b D_Mo_tone 14 3 (pc' := 34) (l' := [(0, .ref 0), (1, .int (nI t)), (2, .int 5)]) (st' := [.int 0]) (h' := cMo (wTh M 0)) (P := True) rfl trivial ?_
  refine gW_if_le (gdec_at D_Mo_tone 17 rfl) (tgt := 41) rfl (fun _ => ?_) (fun cq => absurd (by decide) cq)
  refine gW_b D_Mo_tone 20 3 (pc' := 44) (l' := [(0, .ref 0), (1, .int (nI t)), (2, .int 5)]) (st' := [.int 5, .int (nI t), .ref 0]) (h' := cMo (wTh M 0)) (P := True) rfl trivial ?_
  refine gW_callV (n_toldTone_5 (wTh M 0) hs t (by omega)) lk_Mo_163 [0, 1, 2, 3, 4, 5, 6] (gdec_at D_Mo_tone 23 rfl) (st := []) rfl rfl ⟨rfl, rfl⟩ (Nat.le_of_ble_eq_true rfl) rfl (by decide) rfl (Nat.le_of_ble_eq_true rfl) ⟨Nat.le_of_ble_eq_true rfl, Nat.le_of_ble_eq_true rfl⟩ ⟨Nat.le_of_ble_eq_true rfl, Nat.le_of_ble_eq_true rfl⟩ (gAft_r rfl rfl (h' := cMo (wTh M 0)) (st' := [.int (dSw (mD M) t)]) (pc' := 47) (cs' := 0) (ss' := 0) rfl rfl rfl rfl rfl ?_)
  exact gW_iret (gdec_at D_Mo_tone 24 rfl) rfl rfl (Nat.le_of_ble_eq_true rfl) ⟨rfl, rfl⟩ (Nat.le_of_ble_eq_true rfl) (Nat.le_of_ble_eq_true rfl)
theorem n_tone_6 (M : gMo) (hs : dSz (mD M) ≤ 10) (t : Nat) (ht : t < 4) : gM K_Mo_tone { frames := 4, locals := 91, cells := 0, slots := 0 } [.ref 0, .int (nI t), .int 6] (cMo M) (gD (.inl (some (.int (wtc (dG (mD M)) (nI t) (dSz (mD M)))))) (cMo (wTh M 0))) := by
  refine gM_of rfl rfl (Nat.le_of_ble_eq_true rfl) (fun sc => ?_)
  refine gW_b D_Mo_tone 0 2 (pc' := 2) (l' := [(0, .ref 0), (1, .int (nI t)), (2, .int 6)]) (st' := [.int (nI t), .ref 0]) (h' := cMo M) (P := True) rfl trivial ?_
  refine gW_callS (n_isTone_t t (by omega)) lk_Mo_58 [] (gdec_at D_Mo_tone 2 rfl) (st := [.ref 0]) rfl rfl ⟨rfl, rfl⟩ (Nat.le_of_ble_eq_true rfl) (Nat.le_of_ble_eq_true rfl) ⟨Nat.le_of_ble_eq_true rfl, Nat.le_of_ble_eq_true rfl⟩ ⟨Nat.le_of_ble_eq_true rfl, Nat.le_of_ble_eq_true rfl⟩ (gAft_r rfl rfl (h' := cMo M) (st' := [.int 1, .ref 0]) (pc' := 5) (cs' := 0) (ss' := 0) rfl rfl rfl rfl rfl ?_)
  refine gW_if_ne (gdec_at D_Mo_tone 3 rfl) (tgt := 12) rfl (fun _ => ?_) (fun cq => absurd cq (by decide))
  refine gW_b D_Mo_tone 6 3 (pc' := 16) (l' := [(0, .ref 0), (1, .int (nI t)), (2, .int 6)]) (st' := [.int 6, .int 0, .int 6, .ref 0]) (h' := cMo M) (P := True) rfl trivial ?_
  refine gW_callS (n_in_t 6 0 6 (by decide) (by decide)) lk_Mo_32 [] (gdec_at D_Mo_tone 9 rfl) (st := [.ref 0]) rfl rfl ⟨rfl, rfl⟩ (Nat.le_of_ble_eq_true rfl) (Nat.le_of_ble_eq_true rfl) ⟨Nat.le_of_ble_eq_true rfl, Nat.le_of_ble_eq_true rfl⟩ ⟨Nat.le_of_ble_eq_true rfl, Nat.le_of_ble_eq_true rfl⟩ (gAft_r rfl rfl (h' := cMo M) (st' := [.int 1, .ref 0]) (pc' := 19) (cs' := 0) (ss' := 0) rfl rfl rfl rfl rfl ?_)
  refine gW_if_eq (gdec_at D_Mo_tone 10 rfl) (tgt := 26) rfl (fun cq => absurd cq (by decide)) (fun _ => ?_)
  refine gW_b D_Mo_tone 11 2 (pc' := 27) (l' := [(0, .ref 0), (1, .int (nI t)), (2, .int 6)]) (st' := [.int 0, .ref 0]) (h' := cMo M) (P := True) rfl trivial ?_
  refine gW_b D_Mo_tone 14 3 (pc' := 34) (l' := [(0, .ref 0), (1, .int (nI t)), (2, .int 6)]) (st' := [.int 0]) (h' := cMo (wTh M 0)) (P := True) rfl trivial ?_
  refine gW_if_le (gdec_at D_Mo_tone 17 rfl) (tgt := 41) rfl (fun _ => ?_) (fun cq => absurd (by decide) cq)
  refine gW_b D_Mo_tone 20 3 (pc' := 44) (l' := [(0, .ref 0), (1, .int (nI t)), (2, .int 6)]) (st' := [.int 6, .int (nI t), .ref 0]) (h' := cMo (wTh M 0)) (P := True) rfl trivial ?_
  refine gW_callV (n_toldTone_6 (wTh M 0) hs t (by omega)) lk_Mo_163 [0, 1, 2, 3, 4, 5, 6] (gdec_at D_Mo_tone 23 rfl) (st := []) rfl rfl ⟨rfl, rfl⟩ (Nat.le_of_ble_eq_true rfl) rfl (by decide) rfl (Nat.le_of_ble_eq_true rfl) ⟨Nat.le_of_ble_eq_true rfl, Nat.le_of_ble_eq_true rfl⟩ ⟨Nat.le_of_ble_eq_true rfl, Nat.le_of_ble_eq_true rfl⟩ (gAft_r rfl rfl (h' := cMo (wTh M 0)) (st' := [.int (wtc (dG (mD M)) (nI t) (dSz (mD M)))]) (pc' := 47) (cs' := 0) (ss' := 0) rfl rfl rfl rfl rfl ?_)
  exact gW_iret (gdec_at D_Mo_tone 24 rfl) rfl rfl (Nat.le_of_ble_eq_true rfl) ⟨rfl, rfl⟩ (Nat.le_of_ble_eq_true rfl) (Nat.le_of_ble_eq_true rfl)
theorem n_tone_x1 (M : gMo) (i k : Int32) (h : i < 0 ∨ 4 ≤ i) : gM K_Mo_tone { frames := 4, locals := 91, cells := 0, slots := 0 } [.ref 0, .int i, .int k] (cMo M) (gD (.inl (some (.int 0))) (cMo (wTh M 1))) := by
  refine gM_of rfl rfl (Nat.le_of_ble_eq_true rfl) (fun sc => ?_)
  refine gW_b D_Mo_tone 0 2 (pc' := 2) (l' := [(0, .ref 0), (1, .int i), (2, .int k)]) (st' := [.int i, .ref 0]) (h' := cMo M) (P := True) rfl trivial ?_
  refine gW_callS (n_isTone_f i h) lk_Mo_58 [] (gdec_at D_Mo_tone 2 rfl) (st := [.ref 0]) rfl rfl ⟨rfl, rfl⟩ (Nat.le_of_ble_eq_true rfl) (Nat.le_of_ble_eq_true rfl) ⟨Nat.le_of_ble_eq_true rfl, Nat.le_of_ble_eq_true rfl⟩ ⟨Nat.le_of_ble_eq_true rfl, Nat.le_of_ble_eq_true rfl⟩ (gAft_r rfl rfl (h' := cMo M) (st' := [.int 0, .ref 0]) (pc' := 5) (cs' := 0) (ss' := 0) rfl rfl rfl rfl rfl ?_)
  refine gW_if_ne (gdec_at D_Mo_tone 3 rfl) (tgt := 12) rfl (fun cq => absurd (by decide) cq) (fun _ => ?_)
  refine gW_b D_Mo_tone 4 2 (pc' := 27) (l' := [(0, .ref 0), (1, .int i), (2, .int k)]) (st' := [.int 1, .ref 0]) (h' := cMo M) (P := True) rfl trivial ?_
  refine gW_b D_Mo_tone 14 3 (pc' := 34) (l' := [(0, .ref 0), (1, .int i), (2, .int k)]) (st' := [.int 1]) (h' := cMo (wTh M 1)) (P := True) rfl trivial ?_
  refine gW_if_le (gdec_at D_Mo_tone 17 rfl) (tgt := 41) rfl (fun cq => absurd cq (by decide)) (fun _ => ?_)
  refine gW_b D_Mo_tone 18 2 (pc' := 47) (l' := [(0, .ref 0), (1, .int i), (2, .int k)]) (st' := [.int 0]) (h' := cMo (wTh M 1)) (P := True) rfl trivial ?_
  exact gW_iret (gdec_at D_Mo_tone 24 rfl) rfl rfl (Nat.le_of_ble_eq_true rfl) ⟨rfl, rfl⟩ (Nat.le_of_ble_eq_true rfl) (Nat.le_of_ble_eq_true rfl)
theorem n_tone_x2 (M : gMo) (t : Nat) (k : Int32) (ht : t < 4) (h : k < 0 ∨ 6 < k) : gM K_Mo_tone { frames := 4, locals := 91, cells := 0, slots := 0 } [.ref 0, .int (nI t), .int k] (cMo M) (gD (.inl (some (.int 0))) (cMo (wTh M 2))) := by
  refine gM_of rfl rfl (Nat.le_of_ble_eq_true rfl) (fun sc => ?_)
  refine gW_b D_Mo_tone 0 2 (pc' := 2) (l' := [(0, .ref 0), (1, .int (nI t)), (2, .int k)]) (st' := [.int (nI t), .ref 0]) (h' := cMo M) (P := True) rfl trivial ?_
  refine gW_callS (n_isTone_t t (by omega)) lk_Mo_58 [] (gdec_at D_Mo_tone 2 rfl) (st := [.ref 0]) rfl rfl ⟨rfl, rfl⟩ (Nat.le_of_ble_eq_true rfl) (Nat.le_of_ble_eq_true rfl) ⟨Nat.le_of_ble_eq_true rfl, Nat.le_of_ble_eq_true rfl⟩ ⟨Nat.le_of_ble_eq_true rfl, Nat.le_of_ble_eq_true rfl⟩ (gAft_r rfl rfl (h' := cMo M) (st' := [.int 1, .ref 0]) (pc' := 5) (cs' := 0) (ss' := 0) rfl rfl rfl rfl rfl ?_)
  refine gW_if_ne (gdec_at D_Mo_tone 3 rfl) (tgt := 12) rfl (fun _ => ?_) (fun cq => absurd cq (by decide))
  refine gW_b D_Mo_tone 6 3 (pc' := 16) (l' := [(0, .ref 0), (1, .int (nI t)), (2, .int k)]) (st' := [.int 6, .int 0, .int k, .ref 0]) (h' := cMo M) (P := True) rfl trivial ?_
  refine gW_callS (n_in_f k 0 6 h) lk_Mo_32 [] (gdec_at D_Mo_tone 9 rfl) (st := [.ref 0]) rfl rfl ⟨rfl, rfl⟩ (Nat.le_of_ble_eq_true rfl) (Nat.le_of_ble_eq_true rfl) ⟨Nat.le_of_ble_eq_true rfl, Nat.le_of_ble_eq_true rfl⟩ ⟨Nat.le_of_ble_eq_true rfl, Nat.le_of_ble_eq_true rfl⟩ (gAft_r rfl rfl (h' := cMo M) (st' := [.int 0, .ref 0]) (pc' := 19) (cs' := 0) (ss' := 0) rfl rfl rfl rfl rfl ?_)
  refine gW_if_eq (gdec_at D_Mo_tone 10 rfl) (tgt := 26) rfl (fun _ => ?_) (fun cq => absurd (by decide) cq)
  refine gW_b D_Mo_tone 13 4 (pc' := 34) (l' := [(0, .ref 0), (1, .int (nI t)), (2, .int k)]) (st' := [.int 2]) (h' := cMo (wTh M 2)) (P := True) rfl trivial ?_
  refine gW_if_le (gdec_at D_Mo_tone 17 rfl) (tgt := 41) rfl (fun cq => absurd cq (by decide)) (fun _ => ?_)
  refine gW_b D_Mo_tone 18 2 (pc' := 47) (l' := [(0, .ref 0), (1, .int (nI t)), (2, .int k)]) (st' := [.int 0]) (h' := cMo (wTh M 2)) (P := True) rfl trivial ?_
  exact gW_iret (gdec_at D_Mo_tone 24 rfl) rfl rfl (Nat.le_of_ble_eq_true rfl) ⟨rfl, rfl⟩ (Nat.le_of_ble_eq_true rfl) (Nat.le_of_ble_eq_true rfl)
theorem mxc_le2 (f : Nat → Int32) (i : Nat) : mxc f i ≤ i := mxc_le f i
theorem k_traysM (M : gMo) {sc : Nat × (Nat → Int32)} {n0 : Nat} {E : gO → gH → Prop} (kk : gW K_Mo_trays sc { frames := 2, locals := 45, cells := 0, slots := 0 } n0 E 0 0 48 [(0, .ref 0), (1, .int 1), (2, .int (nI (mxc (dTr (mD M)) 6))), (3, .int (nI 6))] [] (cMo M)) : ∀ (n i : Nat), i + n = 6 → gW K_Mo_trays sc { frames := 2, locals := 45, cells := 0, slots := 0 } n0 E 0 0 4 [(0, .ref 0), (1, .int 1), (2, .int (nI (mxc (dTr (mD M)) i))), (3, .int (nI i))] [] (cMo M) := by
  intro n
  induction n with
  | zero =>
    intro i hi
    obtain rfl : 6 = i := by omega
    refine gW_b D_Mo_trays 4 2 (pc' := 7) (l' := [(0, .ref 0), (1, .int 1), (2, .int (nI (mxc (dTr (mD M)) 6))), (3, .int (nI 6))]) (st' := [.int 6, .int (nI 6)]) (h' := cMo M) (P := True) rfl trivial ?_
    refine gW_ic_ge (gdec_at D_Mo_trays 6 rfl) (tgt := 48) rfl (fun _ => ?_) (fun cq => absurd ((gle (gk 6) (rfl : nI 6 = nI 6) (by omega) (by omega)).mpr (by omega)) cq)
    exact kk
  | succ n ih =>
    intro i hi
    refine gW_b D_Mo_trays 4 2 (pc' := 7) (l' := [(0, .ref 0), (1, .int 1), (2, .int (nI (mxc (dTr (mD M)) i))), (3, .int (nI i))]) (st' := [.int 6, .int (nI i)]) (h' := cMo M) (P := True) rfl trivial ?_
    refine gW_ic_ge (gdec_at D_Mo_trays 6 rfl) (tgt := 48) rfl (fun cq => absurd cq (mt (gle (gk 6) (rfl : nI i = nI i) (by omega) (by omega)).mp (by omega))) (fun _ => ?_)
    have hb := mxc_le (dTr (mD M)) i
    have hb2 := tn_le (dTr (mD M)) i
    refine gW_b D_Mo_trays 7 2 (pc' := 12) (l' := [(0, .ref 0), (1, .int 1), (2, .int (nI (mxc (dTr (mD M)) i))), (3, .int (nI i))]) (st' := [.int 1, .int (nI (mxc (dTr (mD M)) i))]) (h' := cMo M) (P := True) rfl trivial ?_
    refine gW_if_eq (gdec_at D_Mo_trays 9 rfl) (tgt := 27) rfl (fun cq => absurd cq (by decide)) (fun _ => ?_)
    refine gW_b D_Mo_trays 10 2 (pc' := 17) (l' := [(0, .ref 0), (1, .int 1), (2, .int (nI (mxc (dTr (mD M)) i))), (3, .int (nI i))]) (st' := [.int (nI i), .ref 0, .int (nI (mxc (dTr (mD M)) i))]) (h' := cMo M) (P := True) rfl trivial ?_
    refine gW_callV (n_tonesIn M i (by omega)) lk_Mo_95 [0, 1, 2, 3, 4, 5, 6] (gdec_at D_Mo_trays 12 rfl) (st := [.int (nI (mxc (dTr (mD M)) i))]) rfl rfl ⟨rfl, rfl⟩ (Nat.le_of_ble_eq_true rfl) rfl (by decide) rfl (Nat.le_of_ble_eq_true rfl) ⟨Nat.le_of_ble_eq_true rfl, Nat.le_of_ble_eq_true rfl⟩ ⟨Nat.le_of_ble_eq_true rfl, Nat.le_of_ble_eq_true rfl⟩ (gAft_r rfl rfl (h' := cMo M) (st' := [.int (nI (tn (dTr (mD M)) i)), .int (nI (mxc (dTr (mD M)) i))]) (pc' := 20) (cs' := 0) (ss' := 0) rfl rfl rfl rfl rfl ?_)
    refine gW_b D_Mo_trays 13 1 (pc' := 21) (l' := [(0, .ref 0), (1, .int 1), (2, .int (nI (mxc (dTr (mD M)) i))), (3, .int (nI i))]) (st' := [.int 1, .int (nI (tn (dTr (mD M)) i)), .int (nI (mxc (dTr (mD M)) i))]) (h' := cMo M) (P := True) rfl trivial ?_
    refine gW_ic_le (gdec_at D_Mo_trays 14 rfl) (tgt := 39) rfl (fun c => ?_) (fun c => ?_)
    · have c := (gle (rfl : nI (tn (dTr (mD M)) i) = nI (tn (dTr (mD M)) i)) (gk 1) (by omega) (by omega)).mp c
      refine gW_b D_Mo_trays 22 5 (pc' := 4) (l' := [(0, .ref 0), (1, .int 1), (2, .int ((nI (mxc (dTr (mD M)) i)) + 0)), (3, .int ((nI i) + 1))]) (st' := []) (h' := cMo M) (P := True) rfl trivial ?_
      rw [show (nI (mxc (dTr (mD M)) i)) + 0 = nI (mxc (dTr (mD M)) (i + 1)) from by rw [Int32.add_zero, show mxc (dTr (mD M)) (i + 1) = mxc (dTr (mD M)) i from if_pos c]]
      rw [show ((nI i) + 1 : Int32) = nI (i + 1) from (gadd (rfl : nI i = nI i) (gk 1))]
      exact ih (i + 1) (by omega)
    · have c := mt (gle (rfl : nI (tn (dTr (mD M)) i) = nI (tn (dTr (mD M)) i)) (gk 1) (by omega) (by omega)).mpr c
      refine gW_b D_Mo_trays 15 1 (pc' := 35) (l' := [(0, .ref 0), (1, .int 1), (2, .int (nI (mxc (dTr (mD M)) i))), (3, .int (nI i))]) (st' := [.int (nI (mxc (dTr (mD M)) i))]) (h' := cMo M) (P := True) rfl trivial ?_
      refine gW_b D_Mo_trays 20 2 (pc' := 40) (l' := [(0, .ref 0), (1, .int 1), (2, .int (nI (mxc (dTr (mD M)) i))), (3, .int (nI i))]) (st' := [.int 1, .int (nI (mxc (dTr (mD M)) i))]) (h' := cMo M) (P := True) rfl trivial ?_
      refine gW_b D_Mo_trays 23 4 (pc' := 4) (l' := [(0, .ref 0), (1, .int 1), (2, .int ((nI (mxc (dTr (mD M)) i)) + 1)), (3, .int ((nI i) + 1))]) (st' := []) (h' := cMo M) (P := True) rfl trivial ?_
      rw [show ((nI (mxc (dTr (mD M)) i)) + 1 : Int32) = nI ((mxc (dTr (mD M)) i) + 1) from (gadd (rfl : nI (mxc (dTr (mD M)) i) = nI (mxc (dTr (mD M)) i)) (gk 1))]
      rw [show ((nI i) + 1 : Int32) = nI (i + 1) from (gadd (rfl : nI i = nI i) (gk 1))]
      rw [show mxc (dTr (mD M)) i + 1 = mxc (dTr (mD M)) (i + 1) from (if_neg c).symm]
      exact ih (i + 1) (by omega)
theorem n_traysM (M : gMo)  : gM K_Mo_trays { frames := 2, locals := 45, cells := 0, slots := 0 } [.ref 0, .int 1] (cMo M) (gD (.inl (some (.int (nI (mxc (dTr (mD M)) 6))))) (cMo M)) := by
  refine gM_of rfl rfl (Nat.le_of_ble_eq_true rfl) (fun sc => ?_)
  refine gW_b D_Mo_trays 0 4 (pc' := 4) (l' := [(0, .ref 0), (1, .int 1), (2, .int 0), (3, .int 0)]) (st' := []) (h' := cMo M) (P := True) rfl trivial ?_
  refine k_traysM M ?_ 6 0 rfl
  refine gW_b D_Mo_trays 27 1 (pc' := 49) (l' := [(0, .ref 0), (1, .int 1), (2, .int (nI (mxc (dTr (mD M)) 6))), (3, .int (nI 6))]) (st' := [.int (nI (mxc (dTr (mD M)) 6))]) (h' := cMo M) (P := True) rfl trivial ?_
  exact gW_iret (gdec_at D_Mo_trays 28 rfl) rfl rfl (Nat.le_of_ble_eq_true rfl) ⟨rfl, rfl⟩ (Nat.le_of_ble_eq_true rfl) (Nat.le_of_ble_eq_true rfl)
theorem k_traysE (M : gMo) {sc : Nat × (Nat → Int32)} {n0 : Nat} {E : gO → gH → Prop} (kk : gW K_Mo_trays sc { frames := 2, locals := 45, cells := 0, slots := 0 } n0 E 0 0 48 [(0, .ref 0), (1, .int 0), (2, .int (nI (emR (dTr (mD M)) 6))), (3, .int (nI 6))] [] (cMo M)) : ∀ (n i : Nat), i + n = 6 → gW K_Mo_trays sc { frames := 2, locals := 45, cells := 0, slots := 0 } n0 E 0 0 4 [(0, .ref 0), (1, .int 0), (2, .int (nI (emR (dTr (mD M)) i))), (3, .int (nI i))] [] (cMo M) := by
  intro n
  induction n with
  | zero =>
    intro i hi
    obtain rfl : 6 = i := by omega
    refine gW_b D_Mo_trays 4 2 (pc' := 7) (l' := [(0, .ref 0), (1, .int 0), (2, .int (nI (emR (dTr (mD M)) 6))), (3, .int (nI 6))]) (st' := [.int 6, .int (nI 6)]) (h' := cMo M) (P := True) rfl trivial ?_
    refine gW_ic_ge (gdec_at D_Mo_trays 6 rfl) (tgt := 48) rfl (fun _ => ?_) (fun cq => absurd ((gle (gk 6) (rfl : nI 6 = nI 6) (by omega) (by omega)).mpr (by omega)) cq)
    exact kk
  | succ n ih =>
    intro i hi
    refine gW_b D_Mo_trays 4 2 (pc' := 7) (l' := [(0, .ref 0), (1, .int 0), (2, .int (nI (emR (dTr (mD M)) i))), (3, .int (nI i))]) (st' := [.int 6, .int (nI i)]) (h' := cMo M) (P := True) rfl trivial ?_
    refine gW_ic_ge (gdec_at D_Mo_trays 6 rfl) (tgt := 48) rfl (fun cq => absurd cq (mt (gle (gk 6) (rfl : nI i = nI i) (by omega) (by omega)).mp (by omega))) (fun _ => ?_)
    have hb := emR_le (dTr (mD M)) i
    have hb2 := tn_le (dTr (mD M)) i
    refine gW_b D_Mo_trays 7 2 (pc' := 12) (l' := [(0, .ref 0), (1, .int 0), (2, .int (nI (emR (dTr (mD M)) i))), (3, .int (nI i))]) (st' := [.int 0, .int (nI (emR (dTr (mD M)) i))]) (h' := cMo M) (P := True) rfl trivial ?_
    refine gW_if_eq (gdec_at D_Mo_trays 9 rfl) (tgt := 27) rfl (fun _ => ?_) (fun cq => absurd (by decide) cq)
    refine gW_b D_Mo_trays 16 2 (pc' := 29) (l' := [(0, .ref 0), (1, .int 0), (2, .int (nI (emR (dTr (mD M)) i))), (3, .int (nI i))]) (st' := [.int (nI i), .ref 0, .int (nI (emR (dTr (mD M)) i))]) (h' := cMo M) (P := True) rfl trivial ?_
    refine gW_callV (n_inTray M i (by omega)) lk_Mo_43 [0, 1, 2, 3, 4, 5, 6] (gdec_at D_Mo_trays 18 rfl) (st := [.int (nI (emR (dTr (mD M)) i))]) rfl rfl ⟨rfl, rfl⟩ (Nat.le_of_ble_eq_true rfl) rfl (by decide) rfl (Nat.le_of_ble_eq_true rfl) ⟨Nat.le_of_ble_eq_true rfl, Nat.le_of_ble_eq_true rfl⟩ ⟨Nat.le_of_ble_eq_true rfl, Nat.le_of_ble_eq_true rfl⟩ (gAft_r rfl rfl (h' := cMo M) (st' := [.int (hA (dTr (mD M)) i), .int (nI (emR (dTr (mD M)) i))]) (pc' := 32) (cs' := 0) (ss' := 0) rfl rfl rfl rfl rfl ?_)
    refine gW_if_ne (gdec_at D_Mo_trays 19 rfl) (tgt := 39) rfl (fun c => ?_) (fun c => ?_)
    · skip
      refine gW_b D_Mo_trays 22 5 (pc' := 4) (l' := [(0, .ref 0), (1, .int 0), (2, .int ((nI (emR (dTr (mD M)) i)) + 0)), (3, .int ((nI i) + 1))]) (st' := []) (h' := cMo M) (P := True) rfl trivial ?_
      rw [show (nI (emR (dTr (mD M)) i)) + 0 = nI (emR (dTr (mD M)) (i + 1)) from by rw [Int32.add_zero, show emR (dTr (mD M)) (i + 1) = emR (dTr (mD M)) i from if_neg c]]
      rw [show ((nI i) + 1 : Int32) = nI (i + 1) from (gadd (rfl : nI i = nI i) (gk 1))]
      exact ih (i + 1) (by omega)
    · skip
      refine gW_b D_Mo_trays 20 2 (pc' := 40) (l' := [(0, .ref 0), (1, .int 0), (2, .int (nI (emR (dTr (mD M)) i))), (3, .int (nI i))]) (st' := [.int 1, .int (nI (emR (dTr (mD M)) i))]) (h' := cMo M) (P := True) rfl trivial ?_
      refine gW_b D_Mo_trays 23 4 (pc' := 4) (l' := [(0, .ref 0), (1, .int 0), (2, .int ((nI (emR (dTr (mD M)) i)) + 1)), (3, .int ((nI i) + 1))]) (st' := []) (h' := cMo M) (P := True) rfl trivial ?_
      rw [show ((nI (emR (dTr (mD M)) i)) + 1 : Int32) = nI ((emR (dTr (mD M)) i) + 1) from (gadd (rfl : nI (emR (dTr (mD M)) i) = nI (emR (dTr (mD M)) i)) (gk 1))]
      rw [show ((nI i) + 1 : Int32) = nI (i + 1) from (gadd (rfl : nI i = nI i) (gk 1))]
      rw [show emR (dTr (mD M)) i + 1 = emR (dTr (mD M)) (i + 1) from (if_pos c).symm]
      exact ih (i + 1) (by omega)
theorem n_traysE (M : gMo)  : gM K_Mo_trays { frames := 2, locals := 45, cells := 0, slots := 0 } [.ref 0, .int 0] (cMo M) (gD (.inl (some (.int (nI (emR (dTr (mD M)) 6))))) (cMo M)) := by
  refine gM_of rfl rfl (Nat.le_of_ble_eq_true rfl) (fun sc => ?_)
  refine gW_b D_Mo_trays 0 4 (pc' := 4) (l' := [(0, .ref 0), (1, .int 0), (2, .int 0), (3, .int 0)]) (st' := []) (h' := cMo M) (P := True) rfl trivial ?_
  refine k_traysE M ?_ 6 0 rfl
  refine gW_b D_Mo_trays 27 1 (pc' := 49) (l' := [(0, .ref 0), (1, .int 0), (2, .int (nI (emR (dTr (mD M)) 6))), (3, .int (nI 6))]) (st' := [.int (nI (emR (dTr (mD M)) 6))]) (h' := cMo M) (P := True) rfl trivial ?_
  exact gW_iret (gdec_at D_Mo_trays 28 rfl) rfl rfl (Nat.le_of_ble_eq_true rfl) ⟨rfl, rfl⟩ (Nat.le_of_ble_eq_true rfl) (Nat.le_of_ble_eq_true rfl)
theorem n_allOf_39 (M : gMo)  : gM K_Mo_allOf { frames := 0, locals := 0, cells := 0, slots := 0 } [.ref 0, .int 39] (cMo M) (gD (.inl (some (.int (sum4 (dCu (mD M)))))) (cMo M)) := by
  refine gM_of rfl rfl (Nat.le_of_ble_eq_true rfl) (fun sc => ?_)
  refine gW_b D_Mo_allOf 0 6 (pc' := 6) (l' := [(0, .ref 0), (1, .int 39), (2, .int 0), (3, .int 0)]) (st' := [.int 4, .int 0]) (h' := cMo M) (P := True) rfl trivial ?_
  refine gW_ic_ge (gdec_at D_Mo_allOf 6 rfl) (tgt := 26) rfl (fun cq => absurd cq (by decide)) (fun _ => ?_)
  refine gW_b D_Mo_allOf 7 11 (pc' := 4) (l' := [(0, .ref 0), (1, .int 39), (2, .int (0 + ((dCu (mD M)) 0))), (3, .int 1)]) (st' := []) (h' := cMo M) (P := vp_in 39 103 ∧ True) rfl ⟨(gvl 39 103 (by omega) (by omega)), trivial⟩ ?_
  refine gW_b D_Mo_allOf 4 2 (pc' := 6) (l' := [(0, .ref 0), (1, .int 39), (2, .int (0 + ((dCu (mD M)) 0))), (3, .int 1)]) (st' := [.int 4, .int 1]) (h' := cMo M) (P := True) rfl trivial ?_
  refine gW_ic_ge (gdec_at D_Mo_allOf 6 rfl) (tgt := 26) rfl (fun cq => absurd cq (by decide)) (fun _ => ?_)
  refine gW_b D_Mo_allOf 7 11 (pc' := 4) (l' := [(0, .ref 0), (1, .int 39), (2, .int ((0 + ((dCu (mD M)) 0)) + ((dCu (mD M)) 1))), (3, .int 2)]) (st' := []) (h' := cMo M) (P := vp_in 40 103 ∧ True) rfl ⟨(gvl 40 103 (by omega) (by omega)), trivial⟩ ?_
  refine gW_b D_Mo_allOf 4 2 (pc' := 6) (l' := [(0, .ref 0), (1, .int 39), (2, .int ((0 + ((dCu (mD M)) 0)) + ((dCu (mD M)) 1))), (3, .int 2)]) (st' := [.int 4, .int 2]) (h' := cMo M) (P := True) rfl trivial ?_
  refine gW_ic_ge (gdec_at D_Mo_allOf 6 rfl) (tgt := 26) rfl (fun cq => absurd cq (by decide)) (fun _ => ?_)
  refine gW_b D_Mo_allOf 7 11 (pc' := 4) (l' := [(0, .ref 0), (1, .int 39), (2, .int (((0 + ((dCu (mD M)) 0)) + ((dCu (mD M)) 1)) + ((dCu (mD M)) 2))), (3, .int 3)]) (st' := []) (h' := cMo M) (P := vp_in 41 103 ∧ True) rfl ⟨(gvl 41 103 (by omega) (by omega)), trivial⟩ ?_
  refine gW_b D_Mo_allOf 4 2 (pc' := 6) (l' := [(0, .ref 0), (1, .int 39), (2, .int (((0 + ((dCu (mD M)) 0)) + ((dCu (mD M)) 1)) + ((dCu (mD M)) 2))), (3, .int 3)]) (st' := [.int 4, .int 3]) (h' := cMo M) (P := True) rfl trivial ?_
  refine gW_ic_ge (gdec_at D_Mo_allOf 6 rfl) (tgt := 26) rfl (fun cq => absurd cq (by decide)) (fun _ => ?_)
  refine gW_b D_Mo_allOf 7 11 (pc' := 4) (l' := [(0, .ref 0), (1, .int 39), (2, .int ((((0 + ((dCu (mD M)) 0)) + ((dCu (mD M)) 1)) + ((dCu (mD M)) 2)) + ((dCu (mD M)) 3))), (3, .int 4)]) (st' := []) (h' := cMo M) (P := vp_in 42 103 ∧ True) rfl ⟨(gvl 42 103 (by omega) (by omega)), trivial⟩ ?_
  refine gW_b D_Mo_allOf 4 2 (pc' := 6) (l' := [(0, .ref 0), (1, .int 39), (2, .int ((((0 + ((dCu (mD M)) 0)) + ((dCu (mD M)) 1)) + ((dCu (mD M)) 2)) + ((dCu (mD M)) 3))), (3, .int 4)]) (st' := [.int 4, .int 4]) (h' := cMo M) (P := True) rfl trivial ?_
  refine gW_ic_ge (gdec_at D_Mo_allOf 6 rfl) (tgt := 26) rfl (fun _ => ?_) (fun cq => absurd (by decide) cq)
  refine gW_b D_Mo_allOf 18 1 (pc' := 27) (l' := [(0, .ref 0), (1, .int 39), (2, .int ((((0 + ((dCu (mD M)) 0)) + ((dCu (mD M)) 1)) + ((dCu (mD M)) 2)) + ((dCu (mD M)) 3))), (3, .int 4)]) (st' := [.int ((((0 + ((dCu (mD M)) 0)) + ((dCu (mD M)) 1)) + ((dCu (mD M)) 2)) + ((dCu (mD M)) 3))]) (h' := cMo M) (P := True) rfl trivial ?_
  exact gW_iret (gdec_at D_Mo_allOf 19 rfl) rfl rfl (Nat.le_of_ble_eq_true rfl) ⟨rfl, rfl⟩ (Nat.le_of_ble_eq_true rfl) (Nat.le_of_ble_eq_true rfl)
theorem n_allOf_43 (M : gMo)  : gM K_Mo_allOf { frames := 0, locals := 0, cells := 0, slots := 0 } [.ref 0, .int 43] (cMo M) (gD (.inl (some (.int (sum4 (dSw (mD M)))))) (cMo M)) := by
  refine gM_of rfl rfl (Nat.le_of_ble_eq_true rfl) (fun sc => ?_)
  refine gW_b D_Mo_allOf 0 6 (pc' := 6) (l' := [(0, .ref 0), (1, .int 43), (2, .int 0), (3, .int 0)]) (st' := [.int 4, .int 0]) (h' := cMo M) (P := True) rfl trivial ?_
  refine gW_ic_ge (gdec_at D_Mo_allOf 6 rfl) (tgt := 26) rfl (fun cq => absurd cq (by decide)) (fun _ => ?_)
  refine gW_b D_Mo_allOf 7 11 (pc' := 4) (l' := [(0, .ref 0), (1, .int 43), (2, .int (0 + ((dSw (mD M)) 0))), (3, .int 1)]) (st' := []) (h' := cMo M) (P := vp_in 43 103 ∧ True) rfl ⟨(gvl 43 103 (by omega) (by omega)), trivial⟩ ?_
  refine gW_b D_Mo_allOf 4 2 (pc' := 6) (l' := [(0, .ref 0), (1, .int 43), (2, .int (0 + ((dSw (mD M)) 0))), (3, .int 1)]) (st' := [.int 4, .int 1]) (h' := cMo M) (P := True) rfl trivial ?_
  refine gW_ic_ge (gdec_at D_Mo_allOf 6 rfl) (tgt := 26) rfl (fun cq => absurd cq (by decide)) (fun _ => ?_)
  refine gW_b D_Mo_allOf 7 11 (pc' := 4) (l' := [(0, .ref 0), (1, .int 43), (2, .int ((0 + ((dSw (mD M)) 0)) + ((dSw (mD M)) 1))), (3, .int 2)]) (st' := []) (h' := cMo M) (P := vp_in 44 103 ∧ True) rfl ⟨(gvl 44 103 (by omega) (by omega)), trivial⟩ ?_
  refine gW_b D_Mo_allOf 4 2 (pc' := 6) (l' := [(0, .ref 0), (1, .int 43), (2, .int ((0 + ((dSw (mD M)) 0)) + ((dSw (mD M)) 1))), (3, .int 2)]) (st' := [.int 4, .int 2]) (h' := cMo M) (P := True) rfl trivial ?_
  refine gW_ic_ge (gdec_at D_Mo_allOf 6 rfl) (tgt := 26) rfl (fun cq => absurd cq (by decide)) (fun _ => ?_)
  refine gW_b D_Mo_allOf 7 11 (pc' := 4) (l' := [(0, .ref 0), (1, .int 43), (2, .int (((0 + ((dSw (mD M)) 0)) + ((dSw (mD M)) 1)) + ((dSw (mD M)) 2))), (3, .int 3)]) (st' := []) (h' := cMo M) (P := vp_in 45 103 ∧ True) rfl ⟨(gvl 45 103 (by omega) (by omega)), trivial⟩ ?_
  refine gW_b D_Mo_allOf 4 2 (pc' := 6) (l' := [(0, .ref 0), (1, .int 43), (2, .int (((0 + ((dSw (mD M)) 0)) + ((dSw (mD M)) 1)) + ((dSw (mD M)) 2))), (3, .int 3)]) (st' := [.int 4, .int 3]) (h' := cMo M) (P := True) rfl trivial ?_
  refine gW_ic_ge (gdec_at D_Mo_allOf 6 rfl) (tgt := 26) rfl (fun cq => absurd cq (by decide)) (fun _ => ?_)
  refine gW_b D_Mo_allOf 7 11 (pc' := 4) (l' := [(0, .ref 0), (1, .int 43), (2, .int ((((0 + ((dSw (mD M)) 0)) + ((dSw (mD M)) 1)) + ((dSw (mD M)) 2)) + ((dSw (mD M)) 3))), (3, .int 4)]) (st' := []) (h' := cMo M) (P := vp_in 46 103 ∧ True) rfl ⟨(gvl 46 103 (by omega) (by omega)), trivial⟩ ?_
  refine gW_b D_Mo_allOf 4 2 (pc' := 6) (l' := [(0, .ref 0), (1, .int 43), (2, .int ((((0 + ((dSw (mD M)) 0)) + ((dSw (mD M)) 1)) + ((dSw (mD M)) 2)) + ((dSw (mD M)) 3))), (3, .int 4)]) (st' := [.int 4, .int 4]) (h' := cMo M) (P := True) rfl trivial ?_
  refine gW_ic_ge (gdec_at D_Mo_allOf 6 rfl) (tgt := 26) rfl (fun _ => ?_) (fun cq => absurd (by decide) cq)
  refine gW_b D_Mo_allOf 18 1 (pc' := 27) (l' := [(0, .ref 0), (1, .int 43), (2, .int ((((0 + ((dSw (mD M)) 0)) + ((dSw (mD M)) 1)) + ((dSw (mD M)) 2)) + ((dSw (mD M)) 3))), (3, .int 4)]) (st' := [.int ((((0 + ((dSw (mD M)) 0)) + ((dSw (mD M)) 1)) + ((dSw (mD M)) 2)) + ((dSw (mD M)) 3))]) (h' := cMo M) (P := True) rfl trivial ?_
  exact gW_iret (gdec_at D_Mo_allOf 19 rfl) rfl rfl (Nat.le_of_ble_eq_true rfl) ⟨rfl, rfl⟩ (Nat.le_of_ble_eq_true rfl) (Nat.le_of_ble_eq_true rfl)
theorem n_allOf_47 (M : gMo)  : gM K_Mo_allOf { frames := 0, locals := 0, cells := 0, slots := 0 } [.ref 0, .int 47] (cMo M) (gD (.inl (some (.int (sum4 (dLa (mD M)))))) (cMo M)) := by
  refine gM_of rfl rfl (Nat.le_of_ble_eq_true rfl) (fun sc => ?_)
  refine gW_b D_Mo_allOf 0 6 (pc' := 6) (l' := [(0, .ref 0), (1, .int 47), (2, .int 0), (3, .int 0)]) (st' := [.int 4, .int 0]) (h' := cMo M) (P := True) rfl trivial ?_
  refine gW_ic_ge (gdec_at D_Mo_allOf 6 rfl) (tgt := 26) rfl (fun cq => absurd cq (by decide)) (fun _ => ?_)
  refine gW_b D_Mo_allOf 7 11 (pc' := 4) (l' := [(0, .ref 0), (1, .int 47), (2, .int (0 + ((dLa (mD M)) 0))), (3, .int 1)]) (st' := []) (h' := cMo M) (P := vp_in 47 103 ∧ True) rfl ⟨(gvl 47 103 (by omega) (by omega)), trivial⟩ ?_
  refine gW_b D_Mo_allOf 4 2 (pc' := 6) (l' := [(0, .ref 0), (1, .int 47), (2, .int (0 + ((dLa (mD M)) 0))), (3, .int 1)]) (st' := [.int 4, .int 1]) (h' := cMo M) (P := True) rfl trivial ?_
  refine gW_ic_ge (gdec_at D_Mo_allOf 6 rfl) (tgt := 26) rfl (fun cq => absurd cq (by decide)) (fun _ => ?_)
  refine gW_b D_Mo_allOf 7 11 (pc' := 4) (l' := [(0, .ref 0), (1, .int 47), (2, .int ((0 + ((dLa (mD M)) 0)) + ((dLa (mD M)) 1))), (3, .int 2)]) (st' := []) (h' := cMo M) (P := vp_in 48 103 ∧ True) rfl ⟨(gvl 48 103 (by omega) (by omega)), trivial⟩ ?_
  refine gW_b D_Mo_allOf 4 2 (pc' := 6) (l' := [(0, .ref 0), (1, .int 47), (2, .int ((0 + ((dLa (mD M)) 0)) + ((dLa (mD M)) 1))), (3, .int 2)]) (st' := [.int 4, .int 2]) (h' := cMo M) (P := True) rfl trivial ?_
  refine gW_ic_ge (gdec_at D_Mo_allOf 6 rfl) (tgt := 26) rfl (fun cq => absurd cq (by decide)) (fun _ => ?_)
  refine gW_b D_Mo_allOf 7 11 (pc' := 4) (l' := [(0, .ref 0), (1, .int 47), (2, .int (((0 + ((dLa (mD M)) 0)) + ((dLa (mD M)) 1)) + ((dLa (mD M)) 2))), (3, .int 3)]) (st' := []) (h' := cMo M) (P := vp_in 49 103 ∧ True) rfl ⟨(gvl 49 103 (by omega) (by omega)), trivial⟩ ?_
  refine gW_b D_Mo_allOf 4 2 (pc' := 6) (l' := [(0, .ref 0), (1, .int 47), (2, .int (((0 + ((dLa (mD M)) 0)) + ((dLa (mD M)) 1)) + ((dLa (mD M)) 2))), (3, .int 3)]) (st' := [.int 4, .int 3]) (h' := cMo M) (P := True) rfl trivial ?_
  refine gW_ic_ge (gdec_at D_Mo_allOf 6 rfl) (tgt := 26) rfl (fun cq => absurd cq (by decide)) (fun _ => ?_)
  refine gW_b D_Mo_allOf 7 11 (pc' := 4) (l' := [(0, .ref 0), (1, .int 47), (2, .int ((((0 + ((dLa (mD M)) 0)) + ((dLa (mD M)) 1)) + ((dLa (mD M)) 2)) + ((dLa (mD M)) 3))), (3, .int 4)]) (st' := []) (h' := cMo M) (P := vp_in 50 103 ∧ True) rfl ⟨(gvl 50 103 (by omega) (by omega)), trivial⟩ ?_
  refine gW_b D_Mo_allOf 4 2 (pc' := 6) (l' := [(0, .ref 0), (1, .int 47), (2, .int ((((0 + ((dLa (mD M)) 0)) + ((dLa (mD M)) 1)) + ((dLa (mD M)) 2)) + ((dLa (mD M)) 3))), (3, .int 4)]) (st' := [.int 4, .int 4]) (h' := cMo M) (P := True) rfl trivial ?_
  refine gW_ic_ge (gdec_at D_Mo_allOf 6 rfl) (tgt := 26) rfl (fun _ => ?_) (fun cq => absurd (by decide) cq)
  refine gW_b D_Mo_allOf 18 1 (pc' := 27) (l' := [(0, .ref 0), (1, .int 47), (2, .int ((((0 + ((dLa (mD M)) 0)) + ((dLa (mD M)) 1)) + ((dLa (mD M)) 2)) + ((dLa (mD M)) 3))), (3, .int 4)]) (st' := [.int ((((0 + ((dLa (mD M)) 0)) + ((dLa (mD M)) 1)) + ((dLa (mD M)) 2)) + ((dLa (mD M)) 3))]) (h' := cMo M) (P := True) rfl trivial ?_
  exact gW_iret (gdec_at D_Mo_allOf 19 rfl) rfl rfl (Nat.le_of_ble_eq_true rfl) ⟨rfl, rfl⟩ (Nat.le_of_ble_eq_true rfl) (Nat.le_of_ble_eq_true rfl)
theorem n_counted_0 (M : gMo)  : gM K_Mo_counted { frames := 3, locals := 68, cells := 0, slots := 0 } [.ref 0, .int 0] (cMo M) (gD (.inl (some (.int (dDy (mD M))))) (cMo M)) := by
  refine gM_of rfl rfl (Nat.le_of_ble_eq_true rfl) (fun sc => ?_)
  refine gW_b D_Mo_counted 0 1 (pc' := 1) (l' := [(0, .ref 0), (1, .int 0)]) (st' := [.int 0]) (h' := cMo M) (P := True) rfl trivial ?_
  refine gW_tin S_Mo_counted_1 (tgt := 52) (by decide) (by decide) (off := 51) (by decide) rfl ?_
  refine gW_b D_Mo_counted 1 4 (pc' := 59) (l' := [(0, .ref 0), (1, .int 0)]) (st' := [.int (dDy (mD M))]) (h' := cMo M) (P := vp_in 34 103 ∧ True) rfl ⟨(gvl 34 103 (by omega) (by omega)), trivial⟩ ?_
  exact gW_iret (gdec_at D_Mo_counted 5 rfl) rfl rfl (Nat.le_of_ble_eq_true rfl) ⟨rfl, rfl⟩ (Nat.le_of_ble_eq_true rfl) (Nat.le_of_ble_eq_true rfl)
theorem n_counted_1 (M : gMo)  : gM K_Mo_counted { frames := 3, locals := 68, cells := 0, slots := 0 } [.ref 0, .int 1] (cMo M) (gD (.inl (some (.int (nI (dSz (mD M)))))) (cMo M)) := by
  refine gM_of rfl rfl (Nat.le_of_ble_eq_true rfl) (fun sc => ?_)
  refine gW_b D_Mo_counted 0 1 (pc' := 1) (l' := [(0, .ref 0), (1, .int 1)]) (st' := [.int 1]) (h' := cMo M) (P := True) rfl trivial ?_
  refine gW_tin S_Mo_counted_1 (tgt := 60) (by decide) (by decide) (off := 59) (by decide) rfl ?_
  refine gW_b D_Mo_counted 6 4 (pc' := 67) (l' := [(0, .ref 0), (1, .int 1)]) (st' := [.int (nI (dSz (mD M)))]) (h' := cMo M) (P := vp_in 52 103 ∧ True) rfl ⟨(gvl 52 103 (by omega) (by omega)), trivial⟩ ?_
  exact gW_iret (gdec_at D_Mo_counted 10 rfl) rfl rfl (Nat.le_of_ble_eq_true rfl) ⟨rfl, rfl⟩ (Nat.le_of_ble_eq_true rfl) (Nat.le_of_ble_eq_true rfl)
theorem n_counted_2 (M : gMo)  : gM K_Mo_counted { frames := 3, locals := 68, cells := 0, slots := 0 } [.ref 0, .int 2] (cMo M) (gD (.inl (some (.int (dDn (mD M))))) (cMo M)) := by
  refine gM_of rfl rfl (Nat.le_of_ble_eq_true rfl) (fun sc => ?_)
  refine gW_b D_Mo_counted 0 1 (pc' := 1) (l' := [(0, .ref 0), (1, .int 2)]) (st' := [.int 2]) (h' := cMo M) (P := True) rfl trivial ?_
  refine gW_tin S_Mo_counted_1 (tgt := 68) (by decide) (by decide) (off := 67) (by decide) rfl ?_
  refine gW_b D_Mo_counted 11 8 (pc' := 79) (l' := [(0, .ref 0), (1, .int 2)]) (st' := [.int (dDn (mD M))]) (h' := cMo M) (P := vp_in 35 103 ∧ True) rfl ⟨(gvl 35 103 (by omega) (by omega)), trivial⟩ ?_
  exact gW_iret (gdec_at D_Mo_counted 19 rfl) rfl rfl (Nat.le_of_ble_eq_true rfl) ⟨rfl, rfl⟩ (Nat.le_of_ble_eq_true rfl) (Nat.le_of_ble_eq_true rfl)
theorem n_counted_3 (M : gMo)  : gM K_Mo_counted { frames := 3, locals := 68, cells := 0, slots := 0 } [.ref 0, .int 3] (cMo M) (gD (.inl (some (.int (dLt (mD M))))) (cMo M)) := by
  refine gM_of rfl rfl (Nat.le_of_ble_eq_true rfl) (fun sc => ?_)
  refine gW_b D_Mo_counted 0 1 (pc' := 1) (l' := [(0, .ref 0), (1, .int 3)]) (st' := [.int 3]) (h' := cMo M) (P := True) rfl trivial ?_
  refine gW_tin S_Mo_counted_1 (tgt := 68) (by decide) (by decide) (off := 67) (by decide) rfl ?_
  refine gW_b D_Mo_counted 11 8 (pc' := 79) (l' := [(0, .ref 0), (1, .int 3)]) (st' := [.int (dLt (mD M))]) (h' := cMo M) (P := vp_in 36 103 ∧ True) rfl ⟨(gvl 36 103 (by omega) (by omega)), trivial⟩ ?_
  exact gW_iret (gdec_at D_Mo_counted 19 rfl) rfl rfl (Nat.le_of_ble_eq_true rfl) ⟨rfl, rfl⟩ (Nat.le_of_ble_eq_true rfl) (Nat.le_of_ble_eq_true rfl)
theorem n_counted_4 (M : gMo)  : gM K_Mo_counted { frames := 3, locals := 68, cells := 0, slots := 0 } [.ref 0, .int 4] (cMo M) (gD (.inl (some (.int (dLd (mD M))))) (cMo M)) := by
  refine gM_of rfl rfl (Nat.le_of_ble_eq_true rfl) (fun sc => ?_)
  refine gW_b D_Mo_counted 0 1 (pc' := 1) (l' := [(0, .ref 0), (1, .int 4)]) (st' := [.int 4]) (h' := cMo M) (P := True) rfl trivial ?_
  refine gW_tin S_Mo_counted_1 (tgt := 68) (by decide) (by decide) (off := 67) (by decide) rfl ?_
  refine gW_b D_Mo_counted 11 8 (pc' := 79) (l' := [(0, .ref 0), (1, .int 4)]) (st' := [.int (dLd (mD M))]) (h' := cMo M) (P := vp_in 37 103 ∧ True) rfl ⟨(gvl 37 103 (by omega) (by omega)), trivial⟩ ?_
  exact gW_iret (gdec_at D_Mo_counted 19 rfl) rfl rfl (Nat.le_of_ble_eq_true rfl) ⟨rfl, rfl⟩ (Nat.le_of_ble_eq_true rfl) (Nat.le_of_ble_eq_true rfl)
theorem n_counted_5 (M : gMo)  : gM K_Mo_counted { frames := 3, locals := 68, cells := 0, slots := 0 } [.ref 0, .int 5] (cMo M) (gD (.inl (some (.int (nI (mxc (dTr (mD M)) 6))))) (cMo M)) := by
  refine gM_of rfl rfl (Nat.le_of_ble_eq_true rfl) (fun sc => ?_)
  refine gW_b D_Mo_counted 0 1 (pc' := 1) (l' := [(0, .ref 0), (1, .int 5)]) (st' := [.int 5]) (h' := cMo M) (P := True) rfl trivial ?_
  refine gW_tin S_Mo_counted_1 (tgt := 80) (by decide) (by decide) (off := 79) (by decide) rfl ?_
  refine gW_b D_Mo_counted 20 3 (pc' := 83) (l' := [(0, .ref 0), (1, .int 5)]) (st' := [.int 5, .int 5, .ref 0]) (h' := cMo M) (P := True) rfl trivial ?_
  refine gW_ic_ne (gdec_at D_Mo_counted 23 rfl) (tgt := 90) rfl (fun cq => absurd (by decide) cq) (fun _ => ?_)
  refine gW_b D_Mo_counted 24 2 (pc' := 91) (l' := [(0, .ref 0), (1, .int 5)]) (st' := [.int 1, .ref 0]) (h' := cMo M) (P := True) rfl trivial ?_
  refine gW_callV (n_traysM M) lk_Mo_166 [0, 1, 2, 3, 4, 5, 6] (gdec_at D_Mo_counted 27 rfl) (st := []) rfl rfl ⟨rfl, rfl⟩ (Nat.le_of_ble_eq_true rfl) rfl (by decide) rfl (Nat.le_of_ble_eq_true rfl) ⟨Nat.le_of_ble_eq_true rfl, Nat.le_of_ble_eq_true rfl⟩ ⟨Nat.le_of_ble_eq_true rfl, Nat.le_of_ble_eq_true rfl⟩ (gAft_r rfl rfl (h' := cMo M) (st' := [.int (nI (mxc (dTr (mD M)) 6))]) (pc' := 94) (cs' := 0) (ss' := 0) rfl rfl rfl rfl rfl ?_)
  exact gW_iret (gdec_at D_Mo_counted 28 rfl) rfl rfl (Nat.le_of_ble_eq_true rfl) ⟨rfl, rfl⟩ (Nat.le_of_ble_eq_true rfl) (Nat.le_of_ble_eq_true rfl)
theorem n_counted_6 (M : gMo)  : gM K_Mo_counted { frames := 3, locals := 68, cells := 0, slots := 0 } [.ref 0, .int 6] (cMo M) (gD (.inl (some (.int (nI (emR (dTr (mD M)) 6))))) (cMo M)) := by
  refine gM_of rfl rfl (Nat.le_of_ble_eq_true rfl) (fun sc => ?_)
  refine gW_b D_Mo_counted 0 1 (pc' := 1) (l' := [(0, .ref 0), (1, .int 6)]) (st' := [.int 6]) (h' := cMo M) (P := True) rfl trivial ?_
  refine gW_tin S_Mo_counted_1 (tgt := 80) (by decide) (by decide) (off := 79) (by decide) rfl ?_
  refine gW_b D_Mo_counted 20 3 (pc' := 83) (l' := [(0, .ref 0), (1, .int 6)]) (st' := [.int 5, .int 6, .ref 0]) (h' := cMo M) (P := True) rfl trivial ?_
  refine gW_ic_ne (gdec_at D_Mo_counted 23 rfl) (tgt := 90) rfl (fun _ => ?_) (fun cq => absurd cq (by decide))
  refine gW_b D_Mo_counted 26 1 (pc' := 91) (l' := [(0, .ref 0), (1, .int 6)]) (st' := [.int 0, .ref 0]) (h' := cMo M) (P := True) rfl trivial ?_
  refine gW_callV (n_traysE M) lk_Mo_166 [0, 1, 2, 3, 4, 5, 6] (gdec_at D_Mo_counted 27 rfl) (st := []) rfl rfl ⟨rfl, rfl⟩ (Nat.le_of_ble_eq_true rfl) rfl (by decide) rfl (Nat.le_of_ble_eq_true rfl) ⟨Nat.le_of_ble_eq_true rfl, Nat.le_of_ble_eq_true rfl⟩ ⟨Nat.le_of_ble_eq_true rfl, Nat.le_of_ble_eq_true rfl⟩ (gAft_r rfl rfl (h' := cMo M) (st' := [.int (nI (emR (dTr (mD M)) 6))]) (pc' := 94) (cs' := 0) (ss' := 0) rfl rfl rfl rfl rfl ?_)
  exact gW_iret (gdec_at D_Mo_counted 28 rfl) rfl rfl (Nat.le_of_ble_eq_true rfl) ⟨rfl, rfl⟩ (Nat.le_of_ble_eq_true rfl) (Nat.le_of_ble_eq_true rfl)
theorem n_counted_7 (M : gMo)  : gM K_Mo_counted { frames := 3, locals := 68, cells := 0, slots := 0 } [.ref 0, .int 7] (cMo M) (gD (.inl (some (.int (sum4 (dSw (mD M)))))) (cMo M)) := by
  refine gM_of rfl rfl (Nat.le_of_ble_eq_true rfl) (fun sc => ?_)
  refine gW_b D_Mo_counted 0 1 (pc' := 1) (l' := [(0, .ref 0), (1, .int 7)]) (st' := [.int 7]) (h' := cMo M) (P := True) rfl trivial ?_
  refine gW_tin S_Mo_counted_1 (tgt := 95) (by decide) (by decide) (off := 94) (by decide) rfl ?_
  refine gW_b D_Mo_counted 29 2 (pc' := 98) (l' := [(0, .ref 0), (1, .int 7)]) (st' := [.int 43, .ref 0]) (h' := cMo M) (P := True) rfl trivial ?_
  refine gW_callV (n_allOf_43 M) lk_Mo_170 [0, 1, 2, 3, 4, 5, 6] (gdec_at D_Mo_counted 31 rfl) (st := []) rfl rfl ⟨rfl, rfl⟩ (Nat.le_of_ble_eq_true rfl) rfl (by decide) rfl (Nat.le_of_ble_eq_true rfl) ⟨Nat.le_of_ble_eq_true rfl, Nat.le_of_ble_eq_true rfl⟩ ⟨Nat.le_of_ble_eq_true rfl, Nat.le_of_ble_eq_true rfl⟩ (gAft_r rfl rfl (h' := cMo M) (st' := [.int (sum4 (dSw (mD M)))]) (pc' := 101) (cs' := 0) (ss' := 0) rfl rfl rfl rfl rfl ?_)
  exact gW_iret (gdec_at D_Mo_counted 32 rfl) rfl rfl (Nat.le_of_ble_eq_true rfl) ⟨rfl, rfl⟩ (Nat.le_of_ble_eq_true rfl) (Nat.le_of_ble_eq_true rfl)
theorem n_counted_8 (M : gMo)  : gM K_Mo_counted { frames := 3, locals := 68, cells := 0, slots := 0 } [.ref 0, .int 8] (cMo M) (gD (.inl (some (.int (dSo (mD M))))) (cMo M)) := by
  refine gM_of rfl rfl (Nat.le_of_ble_eq_true rfl) (fun sc => ?_)
  refine gW_b D_Mo_counted 0 1 (pc' := 1) (l' := [(0, .ref 0), (1, .int 8)]) (st' := [.int 8]) (h' := cMo M) (P := True) rfl trivial ?_
  refine gW_tin S_Mo_counted_1 (tgt := 102) (by decide) (by decide) (off := 101) (by decide) rfl ?_
  refine gW_b D_Mo_counted 33 4 (pc' := 109) (l' := [(0, .ref 0), (1, .int 8)]) (st' := [.int (dSo (mD M))]) (h' := cMo M) (P := vp_in 38 103 ∧ True) rfl ⟨(gvl 38 103 (by omega) (by omega)), trivial⟩ ?_
  exact gW_iret (gdec_at D_Mo_counted 37 rfl) rfl rfl (Nat.le_of_ble_eq_true rfl) ⟨rfl, rfl⟩ (Nat.le_of_ble_eq_true rfl) (Nat.le_of_ble_eq_true rfl)
theorem n_counted_9 (M : gMo)  : gM K_Mo_counted { frames := 3, locals := 68, cells := 0, slots := 0 } [.ref 0, .int 9] (cMo M) (gD (.inl (some (.int (nI (mN M))))) (cMo M)) := by
  refine gM_of rfl rfl (Nat.le_of_ble_eq_true rfl) (fun sc => ?_)
  refine gW_b D_Mo_counted 0 1 (pc' := 1) (l' := [(0, .ref 0), (1, .int 9)]) (st' := [.int 9]) (h' := cMo M) (P := True) rfl trivial ?_
  refine gW_tout S_Mo_counted_1 (tgt := 110) (by decide) rfl ?_
  refine gW_b D_Mo_counted 38 2 (pc' := 114) (l' := [(0, .ref 0), (1, .int 9)]) (st' := [.int (nI (mN M))]) (h' := cMo M) (P := True) rfl trivial ?_
  exact gW_iret (gdec_at D_Mo_counted 40 rfl) rfl rfl (Nat.le_of_ble_eq_true rfl) ⟨rfl, rfl⟩ (Nat.le_of_ble_eq_true rfl) (Nat.le_of_ble_eq_true rfl)
theorem n_count_0 (M : gMo)  : gM K_Mo_count { frames := 4, locals := 89, cells := 0, slots := 0 } [.ref 0, .int 0] (cMo M) (gD (.inl (some (.int (dDy (mD M))))) (cMo (wTh M 0))) := by
  refine gM_of rfl rfl (Nat.le_of_ble_eq_true rfl) (fun sc => ?_)
  refine gW_b D_Mo_count 0 4 (pc' := 5) (l' := [(0, .ref 0), (1, .int 0)]) (st' := [.int 9, .int 0, .int 0, .ref 0]) (h' := cMo M) (P := True) rfl trivial ?_
  refine gW_callS (n_in_t 0 0 9 (by decide) (by decide)) lk_Mo_32 [] (gdec_at D_Mo_count 4 rfl) (st := [.ref 0]) rfl rfl ⟨rfl, rfl⟩ (Nat.le_of_ble_eq_true rfl) (Nat.le_of_ble_eq_true rfl) ⟨Nat.le_of_ble_eq_true rfl, Nat.le_of_ble_eq_true rfl⟩ ⟨Nat.le_of_ble_eq_true rfl, Nat.le_of_ble_eq_true rfl⟩ (gAft_r rfl rfl (h' := cMo M) (st' := [.int 1, .ref 0]) (pc' := 8) (cs' := 0) (ss' := 0) rfl rfl rfl rfl rfl ?_)
  refine gW_if_eq (gdec_at D_Mo_count 5 rfl) (tgt := 15) rfl (fun cq => absurd cq (by decide)) (fun _ => ?_)
  refine gW_b D_Mo_count 6 2 (pc' := 16) (l' := [(0, .ref 0), (1, .int 0)]) (st' := [.int 0, .ref 0]) (h' := cMo M) (P := True) rfl trivial ?_
  refine gW_b D_Mo_count 9 3 (pc' := 23) (l' := [(0, .ref 0), (1, .int 0)]) (st' := [.int 0]) (h' := cMo (wTh M 0)) (P := True) rfl trivial ?_
  refine gW_if_le (gdec_at D_Mo_count 12 rfl) (tgt := 30) rfl (fun _ => ?_) (fun cq => absurd (by decide) cq)
  refine gW_b D_Mo_count 15 2 (pc' := 32) (l' := [(0, .ref 0), (1, .int 0)]) (st' := [.int 0, .ref 0]) (h' := cMo (wTh M 0)) (P := True) rfl trivial ?_
  refine gW_callV (n_counted_0 (wTh M 0)) lk_Mo_173 [0, 1, 2, 3, 4, 5, 6] (gdec_at D_Mo_count 17 rfl) (st := []) rfl rfl ⟨rfl, rfl⟩ (Nat.le_of_ble_eq_true rfl) rfl (by decide) rfl (Nat.le_of_ble_eq_true rfl) ⟨Nat.le_of_ble_eq_true rfl, Nat.le_of_ble_eq_true rfl⟩ ⟨Nat.le_of_ble_eq_true rfl, Nat.le_of_ble_eq_true rfl⟩ (gAft_r rfl rfl (h' := cMo (wTh M 0)) (st' := [.int (dDy (mD M))]) (pc' := 35) (cs' := 0) (ss' := 0) rfl rfl rfl rfl rfl ?_)
  exact gW_iret (gdec_at D_Mo_count 18 rfl) rfl rfl (Nat.le_of_ble_eq_true rfl) ⟨rfl, rfl⟩ (Nat.le_of_ble_eq_true rfl) (Nat.le_of_ble_eq_true rfl)
theorem n_count_1 (M : gMo)  : gM K_Mo_count { frames := 4, locals := 89, cells := 0, slots := 0 } [.ref 0, .int 1] (cMo M) (gD (.inl (some (.int (nI (dSz (mD M)))))) (cMo (wTh M 0))) := by
  refine gM_of rfl rfl (Nat.le_of_ble_eq_true rfl) (fun sc => ?_)
  refine gW_b D_Mo_count 0 4 (pc' := 5) (l' := [(0, .ref 0), (1, .int 1)]) (st' := [.int 9, .int 0, .int 1, .ref 0]) (h' := cMo M) (P := True) rfl trivial ?_
  refine gW_callS (n_in_t 1 0 9 (by decide) (by decide)) lk_Mo_32 [] (gdec_at D_Mo_count 4 rfl) (st := [.ref 0]) rfl rfl ⟨rfl, rfl⟩ (Nat.le_of_ble_eq_true rfl) (Nat.le_of_ble_eq_true rfl) ⟨Nat.le_of_ble_eq_true rfl, Nat.le_of_ble_eq_true rfl⟩ ⟨Nat.le_of_ble_eq_true rfl, Nat.le_of_ble_eq_true rfl⟩ (gAft_r rfl rfl (h' := cMo M) (st' := [.int 1, .ref 0]) (pc' := 8) (cs' := 0) (ss' := 0) rfl rfl rfl rfl rfl ?_)
  refine gW_if_eq (gdec_at D_Mo_count 5 rfl) (tgt := 15) rfl (fun cq => absurd cq (by decide)) (fun _ => ?_)
  refine gW_b D_Mo_count 6 2 (pc' := 16) (l' := [(0, .ref 0), (1, .int 1)]) (st' := [.int 0, .ref 0]) (h' := cMo M) (P := True) rfl trivial ?_
  refine gW_b D_Mo_count 9 3 (pc' := 23) (l' := [(0, .ref 0), (1, .int 1)]) (st' := [.int 0]) (h' := cMo (wTh M 0)) (P := True) rfl trivial ?_
  refine gW_if_le (gdec_at D_Mo_count 12 rfl) (tgt := 30) rfl (fun _ => ?_) (fun cq => absurd (by decide) cq)
  refine gW_b D_Mo_count 15 2 (pc' := 32) (l' := [(0, .ref 0), (1, .int 1)]) (st' := [.int 1, .ref 0]) (h' := cMo (wTh M 0)) (P := True) rfl trivial ?_
  refine gW_callV (n_counted_1 (wTh M 0)) lk_Mo_173 [0, 1, 2, 3, 4, 5, 6] (gdec_at D_Mo_count 17 rfl) (st := []) rfl rfl ⟨rfl, rfl⟩ (Nat.le_of_ble_eq_true rfl) rfl (by decide) rfl (Nat.le_of_ble_eq_true rfl) ⟨Nat.le_of_ble_eq_true rfl, Nat.le_of_ble_eq_true rfl⟩ ⟨Nat.le_of_ble_eq_true rfl, Nat.le_of_ble_eq_true rfl⟩ (gAft_r rfl rfl (h' := cMo (wTh M 0)) (st' := [.int (nI (dSz (mD M)))]) (pc' := 35) (cs' := 0) (ss' := 0) rfl rfl rfl rfl rfl ?_)
  exact gW_iret (gdec_at D_Mo_count 18 rfl) rfl rfl (Nat.le_of_ble_eq_true rfl) ⟨rfl, rfl⟩ (Nat.le_of_ble_eq_true rfl) (Nat.le_of_ble_eq_true rfl)
theorem n_count_2 (M : gMo)  : gM K_Mo_count { frames := 4, locals := 89, cells := 0, slots := 0 } [.ref 0, .int 2] (cMo M) (gD (.inl (some (.int (dDn (mD M))))) (cMo (wTh M 0))) := by
  refine gM_of rfl rfl (Nat.le_of_ble_eq_true rfl) (fun sc => ?_)
  refine gW_b D_Mo_count 0 4 (pc' := 5) (l' := [(0, .ref 0), (1, .int 2)]) (st' := [.int 9, .int 0, .int 2, .ref 0]) (h' := cMo M) (P := True) rfl trivial ?_
  refine gW_callS (n_in_t 2 0 9 (by decide) (by decide)) lk_Mo_32 [] (gdec_at D_Mo_count 4 rfl) (st := [.ref 0]) rfl rfl ⟨rfl, rfl⟩ (Nat.le_of_ble_eq_true rfl) (Nat.le_of_ble_eq_true rfl) ⟨Nat.le_of_ble_eq_true rfl, Nat.le_of_ble_eq_true rfl⟩ ⟨Nat.le_of_ble_eq_true rfl, Nat.le_of_ble_eq_true rfl⟩ (gAft_r rfl rfl (h' := cMo M) (st' := [.int 1, .ref 0]) (pc' := 8) (cs' := 0) (ss' := 0) rfl rfl rfl rfl rfl ?_)
  refine gW_if_eq (gdec_at D_Mo_count 5 rfl) (tgt := 15) rfl (fun cq => absurd cq (by decide)) (fun _ => ?_)
  refine gW_b D_Mo_count 6 2 (pc' := 16) (l' := [(0, .ref 0), (1, .int 2)]) (st' := [.int 0, .ref 0]) (h' := cMo M) (P := True) rfl trivial ?_
  refine gW_b D_Mo_count 9 3 (pc' := 23) (l' := [(0, .ref 0), (1, .int 2)]) (st' := [.int 0]) (h' := cMo (wTh M 0)) (P := True) rfl trivial ?_
  refine gW_if_le (gdec_at D_Mo_count 12 rfl) (tgt := 30) rfl (fun _ => ?_) (fun cq => absurd (by decide) cq)
  refine gW_b D_Mo_count 15 2 (pc' := 32) (l' := [(0, .ref 0), (1, .int 2)]) (st' := [.int 2, .ref 0]) (h' := cMo (wTh M 0)) (P := True) rfl trivial ?_
  refine gW_callV (n_counted_2 (wTh M 0)) lk_Mo_173 [0, 1, 2, 3, 4, 5, 6] (gdec_at D_Mo_count 17 rfl) (st := []) rfl rfl ⟨rfl, rfl⟩ (Nat.le_of_ble_eq_true rfl) rfl (by decide) rfl (Nat.le_of_ble_eq_true rfl) ⟨Nat.le_of_ble_eq_true rfl, Nat.le_of_ble_eq_true rfl⟩ ⟨Nat.le_of_ble_eq_true rfl, Nat.le_of_ble_eq_true rfl⟩ (gAft_r rfl rfl (h' := cMo (wTh M 0)) (st' := [.int (dDn (mD M))]) (pc' := 35) (cs' := 0) (ss' := 0) rfl rfl rfl rfl rfl ?_)
  exact gW_iret (gdec_at D_Mo_count 18 rfl) rfl rfl (Nat.le_of_ble_eq_true rfl) ⟨rfl, rfl⟩ (Nat.le_of_ble_eq_true rfl) (Nat.le_of_ble_eq_true rfl)
theorem n_count_3 (M : gMo)  : gM K_Mo_count { frames := 4, locals := 89, cells := 0, slots := 0 } [.ref 0, .int 3] (cMo M) (gD (.inl (some (.int (dLt (mD M))))) (cMo (wTh M 0))) := by
  refine gM_of rfl rfl (Nat.le_of_ble_eq_true rfl) (fun sc => ?_)
  refine gW_b D_Mo_count 0 4 (pc' := 5) (l' := [(0, .ref 0), (1, .int 3)]) (st' := [.int 9, .int 0, .int 3, .ref 0]) (h' := cMo M) (P := True) rfl trivial ?_
  refine gW_callS (n_in_t 3 0 9 (by decide) (by decide)) lk_Mo_32 [] (gdec_at D_Mo_count 4 rfl) (st := [.ref 0]) rfl rfl ⟨rfl, rfl⟩ (Nat.le_of_ble_eq_true rfl) (Nat.le_of_ble_eq_true rfl) ⟨Nat.le_of_ble_eq_true rfl, Nat.le_of_ble_eq_true rfl⟩ ⟨Nat.le_of_ble_eq_true rfl, Nat.le_of_ble_eq_true rfl⟩ (gAft_r rfl rfl (h' := cMo M) (st' := [.int 1, .ref 0]) (pc' := 8) (cs' := 0) (ss' := 0) rfl rfl rfl rfl rfl ?_)
  refine gW_if_eq (gdec_at D_Mo_count 5 rfl) (tgt := 15) rfl (fun cq => absurd cq (by decide)) (fun _ => ?_)
  refine gW_b D_Mo_count 6 2 (pc' := 16) (l' := [(0, .ref 0), (1, .int 3)]) (st' := [.int 0, .ref 0]) (h' := cMo M) (P := True) rfl trivial ?_
  refine gW_b D_Mo_count 9 3 (pc' := 23) (l' := [(0, .ref 0), (1, .int 3)]) (st' := [.int 0]) (h' := cMo (wTh M 0)) (P := True) rfl trivial ?_
  refine gW_if_le (gdec_at D_Mo_count 12 rfl) (tgt := 30) rfl (fun _ => ?_) (fun cq => absurd (by decide) cq)
  refine gW_b D_Mo_count 15 2 (pc' := 32) (l' := [(0, .ref 0), (1, .int 3)]) (st' := [.int 3, .ref 0]) (h' := cMo (wTh M 0)) (P := True) rfl trivial ?_
  refine gW_callV (n_counted_3 (wTh M 0)) lk_Mo_173 [0, 1, 2, 3, 4, 5, 6] (gdec_at D_Mo_count 17 rfl) (st := []) rfl rfl ⟨rfl, rfl⟩ (Nat.le_of_ble_eq_true rfl) rfl (by decide) rfl (Nat.le_of_ble_eq_true rfl) ⟨Nat.le_of_ble_eq_true rfl, Nat.le_of_ble_eq_true rfl⟩ ⟨Nat.le_of_ble_eq_true rfl, Nat.le_of_ble_eq_true rfl⟩ (gAft_r rfl rfl (h' := cMo (wTh M 0)) (st' := [.int (dLt (mD M))]) (pc' := 35) (cs' := 0) (ss' := 0) rfl rfl rfl rfl rfl ?_)
  exact gW_iret (gdec_at D_Mo_count 18 rfl) rfl rfl (Nat.le_of_ble_eq_true rfl) ⟨rfl, rfl⟩ (Nat.le_of_ble_eq_true rfl) (Nat.le_of_ble_eq_true rfl)
theorem n_count_4 (M : gMo)  : gM K_Mo_count { frames := 4, locals := 89, cells := 0, slots := 0 } [.ref 0, .int 4] (cMo M) (gD (.inl (some (.int (dLd (mD M))))) (cMo (wTh M 0))) := by
  refine gM_of rfl rfl (Nat.le_of_ble_eq_true rfl) (fun sc => ?_)
  refine gW_b D_Mo_count 0 4 (pc' := 5) (l' := [(0, .ref 0), (1, .int 4)]) (st' := [.int 9, .int 0, .int 4, .ref 0]) (h' := cMo M) (P := True) rfl trivial ?_
  refine gW_callS (n_in_t 4 0 9 (by decide) (by decide)) lk_Mo_32 [] (gdec_at D_Mo_count 4 rfl) (st := [.ref 0]) rfl rfl ⟨rfl, rfl⟩ (Nat.le_of_ble_eq_true rfl) (Nat.le_of_ble_eq_true rfl) ⟨Nat.le_of_ble_eq_true rfl, Nat.le_of_ble_eq_true rfl⟩ ⟨Nat.le_of_ble_eq_true rfl, Nat.le_of_ble_eq_true rfl⟩ (gAft_r rfl rfl (h' := cMo M) (st' := [.int 1, .ref 0]) (pc' := 8) (cs' := 0) (ss' := 0) rfl rfl rfl rfl rfl ?_)
  refine gW_if_eq (gdec_at D_Mo_count 5 rfl) (tgt := 15) rfl (fun cq => absurd cq (by decide)) (fun _ => ?_)
  refine gW_b D_Mo_count 6 2 (pc' := 16) (l' := [(0, .ref 0), (1, .int 4)]) (st' := [.int 0, .ref 0]) (h' := cMo M) (P := True) rfl trivial ?_
  refine gW_b D_Mo_count 9 3 (pc' := 23) (l' := [(0, .ref 0), (1, .int 4)]) (st' := [.int 0]) (h' := cMo (wTh M 0)) (P := True) rfl trivial ?_
  refine gW_if_le (gdec_at D_Mo_count 12 rfl) (tgt := 30) rfl (fun _ => ?_) (fun cq => absurd (by decide) cq)
  refine gW_b D_Mo_count 15 2 (pc' := 32) (l' := [(0, .ref 0), (1, .int 4)]) (st' := [.int 4, .ref 0]) (h' := cMo (wTh M 0)) (P := True) rfl trivial ?_
  refine gW_callV (n_counted_4 (wTh M 0)) lk_Mo_173 [0, 1, 2, 3, 4, 5, 6] (gdec_at D_Mo_count 17 rfl) (st := []) rfl rfl ⟨rfl, rfl⟩ (Nat.le_of_ble_eq_true rfl) rfl (by decide) rfl (Nat.le_of_ble_eq_true rfl) ⟨Nat.le_of_ble_eq_true rfl, Nat.le_of_ble_eq_true rfl⟩ ⟨Nat.le_of_ble_eq_true rfl, Nat.le_of_ble_eq_true rfl⟩ (gAft_r rfl rfl (h' := cMo (wTh M 0)) (st' := [.int (dLd (mD M))]) (pc' := 35) (cs' := 0) (ss' := 0) rfl rfl rfl rfl rfl ?_)
  exact gW_iret (gdec_at D_Mo_count 18 rfl) rfl rfl (Nat.le_of_ble_eq_true rfl) ⟨rfl, rfl⟩ (Nat.le_of_ble_eq_true rfl) (Nat.le_of_ble_eq_true rfl)
theorem n_count_5 (M : gMo)  : gM K_Mo_count { frames := 4, locals := 89, cells := 0, slots := 0 } [.ref 0, .int 5] (cMo M) (gD (.inl (some (.int (nI (mxc (dTr (mD M)) 6))))) (cMo (wTh M 0))) := by
  refine gM_of rfl rfl (Nat.le_of_ble_eq_true rfl) (fun sc => ?_)
  refine gW_b D_Mo_count 0 4 (pc' := 5) (l' := [(0, .ref 0), (1, .int 5)]) (st' := [.int 9, .int 0, .int 5, .ref 0]) (h' := cMo M) (P := True) rfl trivial ?_
  refine gW_callS (n_in_t 5 0 9 (by decide) (by decide)) lk_Mo_32 [] (gdec_at D_Mo_count 4 rfl) (st := [.ref 0]) rfl rfl ⟨rfl, rfl⟩ (Nat.le_of_ble_eq_true rfl) (Nat.le_of_ble_eq_true rfl) ⟨Nat.le_of_ble_eq_true rfl, Nat.le_of_ble_eq_true rfl⟩ ⟨Nat.le_of_ble_eq_true rfl, Nat.le_of_ble_eq_true rfl⟩ (gAft_r rfl rfl (h' := cMo M) (st' := [.int 1, .ref 0]) (pc' := 8) (cs' := 0) (ss' := 0) rfl rfl rfl rfl rfl ?_)
  refine gW_if_eq (gdec_at D_Mo_count 5 rfl) (tgt := 15) rfl (fun cq => absurd cq (by decide)) (fun _ => ?_)
  refine gW_b D_Mo_count 6 2 (pc' := 16) (l' := [(0, .ref 0), (1, .int 5)]) (st' := [.int 0, .ref 0]) (h' := cMo M) (P := True) rfl trivial ?_
  refine gW_b D_Mo_count 9 3 (pc' := 23) (l' := [(0, .ref 0), (1, .int 5)]) (st' := [.int 0]) (h' := cMo (wTh M 0)) (P := True) rfl trivial ?_
  refine gW_if_le (gdec_at D_Mo_count 12 rfl) (tgt := 30) rfl (fun _ => ?_) (fun cq => absurd (by decide) cq)
  refine gW_b D_Mo_count 15 2 (pc' := 32) (l' := [(0, .ref 0), (1, .int 5)]) (st' := [.int 5, .ref 0]) (h' := cMo (wTh M 0)) (P := True) rfl trivial ?_
  refine gW_callV (n_counted_5 (wTh M 0)) lk_Mo_173 [0, 1, 2, 3, 4, 5, 6] (gdec_at D_Mo_count 17 rfl) (st := []) rfl rfl ⟨rfl, rfl⟩ (Nat.le_of_ble_eq_true rfl) rfl (by decide) rfl (Nat.le_of_ble_eq_true rfl) ⟨Nat.le_of_ble_eq_true rfl, Nat.le_of_ble_eq_true rfl⟩ ⟨Nat.le_of_ble_eq_true rfl, Nat.le_of_ble_eq_true rfl⟩ (gAft_r rfl rfl (h' := cMo (wTh M 0)) (st' := [.int (nI (mxc (dTr (mD M)) 6))]) (pc' := 35) (cs' := 0) (ss' := 0) rfl rfl rfl rfl rfl ?_)
  exact gW_iret (gdec_at D_Mo_count 18 rfl) rfl rfl (Nat.le_of_ble_eq_true rfl) ⟨rfl, rfl⟩ (Nat.le_of_ble_eq_true rfl) (Nat.le_of_ble_eq_true rfl)
theorem n_count_6 (M : gMo)  : gM K_Mo_count { frames := 4, locals := 89, cells := 0, slots := 0 } [.ref 0, .int 6] (cMo M) (gD (.inl (some (.int (nI (emR (dTr (mD M)) 6))))) (cMo (wTh M 0))) := by
  refine gM_of rfl rfl (Nat.le_of_ble_eq_true rfl) (fun sc => ?_)
  refine gW_b D_Mo_count 0 4 (pc' := 5) (l' := [(0, .ref 0), (1, .int 6)]) (st' := [.int 9, .int 0, .int 6, .ref 0]) (h' := cMo M) (P := True) rfl trivial ?_
  refine gW_callS (n_in_t 6 0 9 (by decide) (by decide)) lk_Mo_32 [] (gdec_at D_Mo_count 4 rfl) (st := [.ref 0]) rfl rfl ⟨rfl, rfl⟩ (Nat.le_of_ble_eq_true rfl) (Nat.le_of_ble_eq_true rfl) ⟨Nat.le_of_ble_eq_true rfl, Nat.le_of_ble_eq_true rfl⟩ ⟨Nat.le_of_ble_eq_true rfl, Nat.le_of_ble_eq_true rfl⟩ (gAft_r rfl rfl (h' := cMo M) (st' := [.int 1, .ref 0]) (pc' := 8) (cs' := 0) (ss' := 0) rfl rfl rfl rfl rfl ?_)
  refine gW_if_eq (gdec_at D_Mo_count 5 rfl) (tgt := 15) rfl (fun cq => absurd cq (by decide)) (fun _ => ?_)
  refine gW_b D_Mo_count 6 2 (pc' := 16) (l' := [(0, .ref 0), (1, .int 6)]) (st' := [.int 0, .ref 0]) (h' := cMo M) (P := True) rfl trivial ?_
  refine gW_b D_Mo_count 9 3 (pc' := 23) (l' := [(0, .ref 0), (1, .int 6)]) (st' := [.int 0]) (h' := cMo (wTh M 0)) (P := True) rfl trivial ?_
  refine gW_if_le (gdec_at D_Mo_count 12 rfl) (tgt := 30) rfl (fun _ => ?_) (fun cq => absurd (by decide) cq)
  refine gW_b D_Mo_count 15 2 (pc' := 32) (l' := [(0, .ref 0), (1, .int 6)]) (st' := [.int 6, .ref 0]) (h' := cMo (wTh M 0)) (P := True) rfl trivial ?_
  refine gW_callV (n_counted_6 (wTh M 0)) lk_Mo_173 [0, 1, 2, 3, 4, 5, 6] (gdec_at D_Mo_count 17 rfl) (st := []) rfl rfl ⟨rfl, rfl⟩ (Nat.le_of_ble_eq_true rfl) rfl (by decide) rfl (Nat.le_of_ble_eq_true rfl) ⟨Nat.le_of_ble_eq_true rfl, Nat.le_of_ble_eq_true rfl⟩ ⟨Nat.le_of_ble_eq_true rfl, Nat.le_of_ble_eq_true rfl⟩ (gAft_r rfl rfl (h' := cMo (wTh M 0)) (st' := [.int (nI (emR (dTr (mD M)) 6))]) (pc' := 35) (cs' := 0) (ss' := 0) rfl rfl rfl rfl rfl ?_)
  exact gW_iret (gdec_at D_Mo_count 18 rfl) rfl rfl (Nat.le_of_ble_eq_true rfl) ⟨rfl, rfl⟩ (Nat.le_of_ble_eq_true rfl) (Nat.le_of_ble_eq_true rfl)
theorem n_count_7 (M : gMo)  : gM K_Mo_count { frames := 4, locals := 89, cells := 0, slots := 0 } [.ref 0, .int 7] (cMo M) (gD (.inl (some (.int (sum4 (dSw (mD M)))))) (cMo (wTh M 0))) := by
  refine gM_of rfl rfl (Nat.le_of_ble_eq_true rfl) (fun sc => ?_)
  refine gW_b D_Mo_count 0 4 (pc' := 5) (l' := [(0, .ref 0), (1, .int 7)]) (st' := [.int 9, .int 0, .int 7, .ref 0]) (h' := cMo M) (P := True) rfl trivial ?_
  refine gW_callS (n_in_t 7 0 9 (by decide) (by decide)) lk_Mo_32 [] (gdec_at D_Mo_count 4 rfl) (st := [.ref 0]) rfl rfl ⟨rfl, rfl⟩ (Nat.le_of_ble_eq_true rfl) (Nat.le_of_ble_eq_true rfl) ⟨Nat.le_of_ble_eq_true rfl, Nat.le_of_ble_eq_true rfl⟩ ⟨Nat.le_of_ble_eq_true rfl, Nat.le_of_ble_eq_true rfl⟩ (gAft_r rfl rfl (h' := cMo M) (st' := [.int 1, .ref 0]) (pc' := 8) (cs' := 0) (ss' := 0) rfl rfl rfl rfl rfl ?_)
  refine gW_if_eq (gdec_at D_Mo_count 5 rfl) (tgt := 15) rfl (fun cq => absurd cq (by decide)) (fun _ => ?_)
  refine gW_b D_Mo_count 6 2 (pc' := 16) (l' := [(0, .ref 0), (1, .int 7)]) (st' := [.int 0, .ref 0]) (h' := cMo M) (P := True) rfl trivial ?_
  refine gW_b D_Mo_count 9 3 (pc' := 23) (l' := [(0, .ref 0), (1, .int 7)]) (st' := [.int 0]) (h' := cMo (wTh M 0)) (P := True) rfl trivial ?_
  refine gW_if_le (gdec_at D_Mo_count 12 rfl) (tgt := 30) rfl (fun _ => ?_) (fun cq => absurd (by decide) cq)
  refine gW_b D_Mo_count 15 2 (pc' := 32) (l' := [(0, .ref 0), (1, .int 7)]) (st' := [.int 7, .ref 0]) (h' := cMo (wTh M 0)) (P := True) rfl trivial ?_
  refine gW_callV (n_counted_7 (wTh M 0)) lk_Mo_173 [0, 1, 2, 3, 4, 5, 6] (gdec_at D_Mo_count 17 rfl) (st := []) rfl rfl ⟨rfl, rfl⟩ (Nat.le_of_ble_eq_true rfl) rfl (by decide) rfl (Nat.le_of_ble_eq_true rfl) ⟨Nat.le_of_ble_eq_true rfl, Nat.le_of_ble_eq_true rfl⟩ ⟨Nat.le_of_ble_eq_true rfl, Nat.le_of_ble_eq_true rfl⟩ (gAft_r rfl rfl (h' := cMo (wTh M 0)) (st' := [.int (sum4 (dSw (mD M)))]) (pc' := 35) (cs' := 0) (ss' := 0) rfl rfl rfl rfl rfl ?_)
  exact gW_iret (gdec_at D_Mo_count 18 rfl) rfl rfl (Nat.le_of_ble_eq_true rfl) ⟨rfl, rfl⟩ (Nat.le_of_ble_eq_true rfl) (Nat.le_of_ble_eq_true rfl)
theorem n_count_8 (M : gMo)  : gM K_Mo_count { frames := 4, locals := 89, cells := 0, slots := 0 } [.ref 0, .int 8] (cMo M) (gD (.inl (some (.int (dSo (mD M))))) (cMo (wTh M 0))) := by
  refine gM_of rfl rfl (Nat.le_of_ble_eq_true rfl) (fun sc => ?_)
  refine gW_b D_Mo_count 0 4 (pc' := 5) (l' := [(0, .ref 0), (1, .int 8)]) (st' := [.int 9, .int 0, .int 8, .ref 0]) (h' := cMo M) (P := True) rfl trivial ?_
  refine gW_callS (n_in_t 8 0 9 (by decide) (by decide)) lk_Mo_32 [] (gdec_at D_Mo_count 4 rfl) (st := [.ref 0]) rfl rfl ⟨rfl, rfl⟩ (Nat.le_of_ble_eq_true rfl) (Nat.le_of_ble_eq_true rfl) ⟨Nat.le_of_ble_eq_true rfl, Nat.le_of_ble_eq_true rfl⟩ ⟨Nat.le_of_ble_eq_true rfl, Nat.le_of_ble_eq_true rfl⟩ (gAft_r rfl rfl (h' := cMo M) (st' := [.int 1, .ref 0]) (pc' := 8) (cs' := 0) (ss' := 0) rfl rfl rfl rfl rfl ?_)
  refine gW_if_eq (gdec_at D_Mo_count 5 rfl) (tgt := 15) rfl (fun cq => absurd cq (by decide)) (fun _ => ?_)
  refine gW_b D_Mo_count 6 2 (pc' := 16) (l' := [(0, .ref 0), (1, .int 8)]) (st' := [.int 0, .ref 0]) (h' := cMo M) (P := True) rfl trivial ?_
  refine gW_b D_Mo_count 9 3 (pc' := 23) (l' := [(0, .ref 0), (1, .int 8)]) (st' := [.int 0]) (h' := cMo (wTh M 0)) (P := True) rfl trivial ?_
  refine gW_if_le (gdec_at D_Mo_count 12 rfl) (tgt := 30) rfl (fun _ => ?_) (fun cq => absurd (by decide) cq)
  refine gW_b D_Mo_count 15 2 (pc' := 32) (l' := [(0, .ref 0), (1, .int 8)]) (st' := [.int 8, .ref 0]) (h' := cMo (wTh M 0)) (P := True) rfl trivial ?_
  refine gW_callV (n_counted_8 (wTh M 0)) lk_Mo_173 [0, 1, 2, 3, 4, 5, 6] (gdec_at D_Mo_count 17 rfl) (st := []) rfl rfl ⟨rfl, rfl⟩ (Nat.le_of_ble_eq_true rfl) rfl (by decide) rfl (Nat.le_of_ble_eq_true rfl) ⟨Nat.le_of_ble_eq_true rfl, Nat.le_of_ble_eq_true rfl⟩ ⟨Nat.le_of_ble_eq_true rfl, Nat.le_of_ble_eq_true rfl⟩ (gAft_r rfl rfl (h' := cMo (wTh M 0)) (st' := [.int (dSo (mD M))]) (pc' := 35) (cs' := 0) (ss' := 0) rfl rfl rfl rfl rfl ?_)
  exact gW_iret (gdec_at D_Mo_count 18 rfl) rfl rfl (Nat.le_of_ble_eq_true rfl) ⟨rfl, rfl⟩ (Nat.le_of_ble_eq_true rfl) (Nat.le_of_ble_eq_true rfl)
theorem n_count_9 (M : gMo)  : gM K_Mo_count { frames := 4, locals := 89, cells := 0, slots := 0 } [.ref 0, .int 9] (cMo M) (gD (.inl (some (.int (nI (mN M))))) (cMo (wTh M 0))) := by
  refine gM_of rfl rfl (Nat.le_of_ble_eq_true rfl) (fun sc => ?_)
  refine gW_b D_Mo_count 0 4 (pc' := 5) (l' := [(0, .ref 0), (1, .int 9)]) (st' := [.int 9, .int 0, .int 9, .ref 0]) (h' := cMo M) (P := True) rfl trivial ?_
  refine gW_callS (n_in_t 9 0 9 (by decide) (by decide)) lk_Mo_32 [] (gdec_at D_Mo_count 4 rfl) (st := [.ref 0]) rfl rfl ⟨rfl, rfl⟩ (Nat.le_of_ble_eq_true rfl) (Nat.le_of_ble_eq_true rfl) ⟨Nat.le_of_ble_eq_true rfl, Nat.le_of_ble_eq_true rfl⟩ ⟨Nat.le_of_ble_eq_true rfl, Nat.le_of_ble_eq_true rfl⟩ (gAft_r rfl rfl (h' := cMo M) (st' := [.int 1, .ref 0]) (pc' := 8) (cs' := 0) (ss' := 0) rfl rfl rfl rfl rfl ?_)
  refine gW_if_eq (gdec_at D_Mo_count 5 rfl) (tgt := 15) rfl (fun cq => absurd cq (by decide)) (fun _ => ?_)
  refine gW_b D_Mo_count 6 2 (pc' := 16) (l' := [(0, .ref 0), (1, .int 9)]) (st' := [.int 0, .ref 0]) (h' := cMo M) (P := True) rfl trivial ?_
  refine gW_b D_Mo_count 9 3 (pc' := 23) (l' := [(0, .ref 0), (1, .int 9)]) (st' := [.int 0]) (h' := cMo (wTh M 0)) (P := True) rfl trivial ?_
  refine gW_if_le (gdec_at D_Mo_count 12 rfl) (tgt := 30) rfl (fun _ => ?_) (fun cq => absurd (by decide) cq)
  refine gW_b D_Mo_count 15 2 (pc' := 32) (l' := [(0, .ref 0), (1, .int 9)]) (st' := [.int 9, .ref 0]) (h' := cMo (wTh M 0)) (P := True) rfl trivial ?_
  refine gW_callV (n_counted_9 (wTh M 0)) lk_Mo_173 [0, 1, 2, 3, 4, 5, 6] (gdec_at D_Mo_count 17 rfl) (st := []) rfl rfl ⟨rfl, rfl⟩ (Nat.le_of_ble_eq_true rfl) rfl (by decide) rfl (Nat.le_of_ble_eq_true rfl) ⟨Nat.le_of_ble_eq_true rfl, Nat.le_of_ble_eq_true rfl⟩ ⟨Nat.le_of_ble_eq_true rfl, Nat.le_of_ble_eq_true rfl⟩ (gAft_r rfl rfl (h' := cMo (wTh M 0)) (st' := [.int (nI (mN M))]) (pc' := 35) (cs' := 0) (ss' := 0) rfl rfl rfl rfl rfl ?_)
  exact gW_iret (gdec_at D_Mo_count 18 rfl) rfl rfl (Nat.le_of_ble_eq_true rfl) ⟨rfl, rfl⟩ (Nat.le_of_ble_eq_true rfl) (Nat.le_of_ble_eq_true rfl)
theorem n_count_x (M : gMo) (k : Int32) (h : k < 0 ∨ 9 < k) : gM K_Mo_count { frames := 4, locals := 89, cells := 0, slots := 0 } [.ref 0, .int k] (cMo M) (gD (.inl (some (.int 0))) (cMo (wTh M 1))) := by
  refine gM_of rfl rfl (Nat.le_of_ble_eq_true rfl) (fun sc => ?_)
  refine gW_b D_Mo_count 0 4 (pc' := 5) (l' := [(0, .ref 0), (1, .int k)]) (st' := [.int 9, .int 0, .int k, .ref 0]) (h' := cMo M) (P := True) rfl trivial ?_
  refine gW_callS (n_in_f k 0 9 h) lk_Mo_32 [] (gdec_at D_Mo_count 4 rfl) (st := [.ref 0]) rfl rfl ⟨rfl, rfl⟩ (Nat.le_of_ble_eq_true rfl) (Nat.le_of_ble_eq_true rfl) ⟨Nat.le_of_ble_eq_true rfl, Nat.le_of_ble_eq_true rfl⟩ ⟨Nat.le_of_ble_eq_true rfl, Nat.le_of_ble_eq_true rfl⟩ (gAft_r rfl rfl (h' := cMo M) (st' := [.int 0, .ref 0]) (pc' := 8) (cs' := 0) (ss' := 0) rfl rfl rfl rfl rfl ?_)
  refine gW_if_eq (gdec_at D_Mo_count 5 rfl) (tgt := 15) rfl (fun _ => ?_) (fun cq => absurd (by decide) cq)
  refine gW_b D_Mo_count 8 4 (pc' := 23) (l' := [(0, .ref 0), (1, .int k)]) (st' := [.int 1]) (h' := cMo (wTh M 1)) (P := True) rfl trivial ?_
  refine gW_if_le (gdec_at D_Mo_count 12 rfl) (tgt := 30) rfl (fun cq => absurd cq (by decide)) (fun _ => ?_)
  refine gW_b D_Mo_count 13 2 (pc' := 35) (l' := [(0, .ref 0), (1, .int k)]) (st' := [.int 0]) (h' := cMo (wTh M 1)) (P := True) rfl trivial ?_
  exact gW_iret (gdec_at D_Mo_count 18 rfl) rfl rfl (Nat.le_of_ble_eq_true rfl) ⟨rfl, rfl⟩ (Nat.le_of_ble_eq_true rfl) (Nat.le_of_ble_eq_true rfl)
theorem n_setting (M : gMo) (k : Nat) (hk : k < 6) : gM K_Mo_setting { frames := 1, locals := 22, cells := 0, slots := 0 } [.ref 0, .int (nI k)] (cMo M) (gD (.inl (some (.int (dSt (mD M) k)))) (cMo (wTh M 0))) := by
  refine gM_of rfl rfl (Nat.le_of_ble_eq_true rfl) (fun sc => ?_)
  refine gW_b D_Mo_setting 0 4 (pc' := 4) (l' := [(0, .ref 0), (1, .int (nI k))]) (st' := [.int 5, .int 0, .int (nI k), .ref 0]) (h' := cMo M) (P := True) rfl trivial ?_
  refine gW_callS (n_in_t (nI k) 0 5 (mt (glt (rfl : nI k = nI k) (gk 0) (by omega) (by omega)).mp (by omega)) (mt (glt (gk 5) (rfl : nI k = nI k) (by omega) (by omega)).mp (by omega))) lk_Mo_32 [] (gdec_at D_Mo_setting 4 rfl) (st := [.ref 0]) rfl rfl ⟨rfl, rfl⟩ (Nat.le_of_ble_eq_true rfl) (Nat.le_of_ble_eq_true rfl) ⟨Nat.le_of_ble_eq_true rfl, Nat.le_of_ble_eq_true rfl⟩ ⟨Nat.le_of_ble_eq_true rfl, Nat.le_of_ble_eq_true rfl⟩ (gAft_r rfl rfl (h' := cMo M) (st' := [.int 1, .ref 0]) (pc' := 7) (cs' := 0) (ss' := 0) rfl rfl rfl rfl rfl ?_)
  refine gW_if_eq (gdec_at D_Mo_setting 5 rfl) (tgt := 14) rfl (fun cq => absurd cq (by decide)) (fun _ => ?_)
  refine gW_b D_Mo_setting 6 2 (pc' := 15) (l' := [(0, .ref 0), (1, .int (nI k))]) (st' := [.int 0, .ref 0]) (h' := cMo M) (P := True) rfl trivial ?_
  refine gW_b D_Mo_setting 9 3 (pc' := 22) (l' := [(0, .ref 0), (1, .int (nI k))]) (st' := [.int 0]) (h' := cMo (wTh M 0)) (P := True) rfl trivial ?_
  refine gW_if_le (gdec_at D_Mo_setting 12 rfl) (tgt := 29) rfl (fun _ => ?_) (fun cq => absurd (by decide) cq)
  refine gW_b D_Mo_setting 15 6 (pc' := 38) (l' := [(0, .ref 0), (1, .int (nI k))]) (st' := [.int (zD (mD M) (28 + (nI k)).toNatClampNeg)]) (h' := cMo (wTh M 0)) (P := vp_in (28 + (nI k)) 103 ∧ True) rfl ⟨(gvin (gadd (gk 28) (rfl : nI k = nI k)) (by omega) (by omega)), trivial⟩ ?_
  rw [show (28 + (nI k)).toNatClampNeg = (28 + k) from gclp (gadd (gk 28) (rfl : nI k = nI k)) (by omega)]
  rw [show (zD (mD M) (28 + k) : Int32) = (dSt (mD M)) (k) from zr_st (mD M) k (by omega)]
  exact gW_iret (gdec_at D_Mo_setting 21 rfl) rfl rfl (Nat.le_of_ble_eq_true rfl) ⟨rfl, rfl⟩ (Nat.le_of_ble_eq_true rfl) (Nat.le_of_ble_eq_true rfl)
theorem n_setting_x (M : gMo) (i : Int32) (h : i < 0 ∨ 6 ≤ i) : gM K_Mo_setting { frames := 1, locals := 22, cells := 0, slots := 0 } [.ref 0, .int i] (cMo M) (gD (.inl (some (.int 0))) (cMo (wTh M 1))) := by
  refine gM_of rfl rfl (Nat.le_of_ble_eq_true rfl) (fun sc => ?_)
  refine gW_b D_Mo_setting 0 4 (pc' := 4) (l' := [(0, .ref 0), (1, .int i)]) (st' := [.int 5, .int 0, .int i, .ref 0]) (h' := cMo M) (P := True) rfl trivial ?_
  refine gW_callS (n_in_f i 0 5 (h.elim Or.inl fun z => Or.inr (i6_5 z))) lk_Mo_32 [] (gdec_at D_Mo_setting 4 rfl) (st := [.ref 0]) rfl rfl ⟨rfl, rfl⟩ (Nat.le_of_ble_eq_true rfl) (Nat.le_of_ble_eq_true rfl) ⟨Nat.le_of_ble_eq_true rfl, Nat.le_of_ble_eq_true rfl⟩ ⟨Nat.le_of_ble_eq_true rfl, Nat.le_of_ble_eq_true rfl⟩ (gAft_r rfl rfl (h' := cMo M) (st' := [.int 0, .ref 0]) (pc' := 7) (cs' := 0) (ss' := 0) rfl rfl rfl rfl rfl ?_)
  refine gW_if_eq (gdec_at D_Mo_setting 5 rfl) (tgt := 14) rfl (fun _ => ?_) (fun cq => absurd (by decide) cq)
  refine gW_b D_Mo_setting 8 4 (pc' := 22) (l' := [(0, .ref 0), (1, .int i)]) (st' := [.int 1]) (h' := cMo (wTh M 1)) (P := True) rfl trivial ?_
  refine gW_if_le (gdec_at D_Mo_setting 12 rfl) (tgt := 29) rfl (fun cq => absurd cq (by decide)) (fun _ => ?_)
  refine gW_b D_Mo_setting 13 2 (pc' := 38) (l' := [(0, .ref 0), (1, .int i)]) (st' := [.int 0]) (h' := cMo (wTh M 1)) (P := True) rfl trivial ?_
  exact gW_iret (gdec_at D_Mo_setting 21 rfl) rfl rfl (Nat.le_of_ble_eq_true rfl) ⟨rfl, rfl⟩ (Nat.le_of_ble_eq_true rfl) (Nat.le_of_ble_eq_true rfl)
theorem n_taken (M : gMo) (c : Nat) (hok : rOK (mD M)) (hc1 : 1 ≤ c) (hc2 : c ≤ 500) : gM K_Mo_taken { frames := 2, locals := 43, cells := 0, slots := 0 } [.ref 0, .int (nI c)] (cMo M) (gD (.inl (some (.int (nI (tkN (tnx (dSt (mD M) 5)) c))))) (cMo (wTh M 0))) := by
  refine gM_of rfl rfl (Nat.le_of_ble_eq_true rfl) (fun sc => ?_)
  obtain ⟨-, -, h5, h51, h52, -⟩ := id hok
  refine gW_b D_Mo_taken 0 4 (pc' := 6) (l' := [(0, .ref 0), (1, .int (nI c))]) (st' := [.int 500, .int 1, .int (nI c), .ref 0]) (h' := cMo M) (P := True) rfl trivial ?_
  refine gW_callS (n_in_t (nI c) 1 500 (mt (glt (rfl : nI c = nI c) (gk 1) (by omega) (by omega)).mp (by omega)) (mt (glt (gk 500) (rfl : nI c = nI c) (by omega) (by omega)).mp (by omega))) lk_Mo_32 [] (gdec_at D_Mo_taken 4 rfl) (st := [.ref 0]) rfl rfl ⟨rfl, rfl⟩ (Nat.le_of_ble_eq_true rfl) (Nat.le_of_ble_eq_true rfl) ⟨Nat.le_of_ble_eq_true rfl, Nat.le_of_ble_eq_true rfl⟩ ⟨Nat.le_of_ble_eq_true rfl, Nat.le_of_ble_eq_true rfl⟩ (gAft_r rfl rfl (h' := cMo M) (st' := [.int 1, .ref 0]) (pc' := 9) (cs' := 0) (ss' := 0) rfl rfl rfl rfl rfl ?_)
  refine gW_if_eq (gdec_at D_Mo_taken 5 rfl) (tgt := 16) rfl (fun cq => absurd cq (by decide)) (fun _ => ?_)
  refine gW_b D_Mo_taken 6 2 (pc' := 17) (l' := [(0, .ref 0), (1, .int (nI c))]) (st' := [.int 0, .ref 0]) (h' := cMo M) (P := True) rfl trivial ?_
  refine gW_b D_Mo_taken 9 3 (pc' := 24) (l' := [(0, .ref 0), (1, .int (nI c))]) (st' := [.int 0]) (h' := cMo (wTh M 0)) (P := True) rfl trivial ?_
  refine gW_if_le (gdec_at D_Mo_taken 12 rfl) (tgt := 31) rfl (fun _ => ?_) (fun cq => absurd (by decide) cq)
  refine gW_b D_Mo_taken 15 2 (pc' := 33) (l' := [(0, .ref 0), (1, .int (nI c))]) (st' := [.int (nI c), .ref 0]) (h' := cMo (wTh M 0)) (P := True) rfl trivial ?_
  refine gW_callV (n_takenFor (wTh M 0) (tnx (dSt (mD M) 5)) c h5 h51 h52 hc1 hc2) lk_Mo_98 [0, 1, 2, 3, 4, 5, 6] (gdec_at D_Mo_taken 17 rfl) (st := []) rfl rfl ⟨rfl, rfl⟩ (Nat.le_of_ble_eq_true rfl) rfl (by decide) rfl (Nat.le_of_ble_eq_true rfl) ⟨Nat.le_of_ble_eq_true rfl, Nat.le_of_ble_eq_true rfl⟩ ⟨Nat.le_of_ble_eq_true rfl, Nat.le_of_ble_eq_true rfl⟩ (gAft_r rfl rfl (h' := cMo (wTh M 0)) (st' := [.int (nI (tkN (tnx (dSt (mD M) 5)) c))]) (pc' := 36) (cs' := 0) (ss' := 0) rfl rfl rfl rfl rfl ?_)
  exact gW_iret (gdec_at D_Mo_taken 18 rfl) rfl rfl (Nat.le_of_ble_eq_true rfl) ⟨rfl, rfl⟩ (Nat.le_of_ble_eq_true rfl) (Nat.le_of_ble_eq_true rfl)
theorem n_taken_x (M : gMo) (x : Int32) (h : x < 1 ∨ 500 < x) : gM K_Mo_taken { frames := 2, locals := 43, cells := 0, slots := 0 } [.ref 0, .int x] (cMo M) (gD (.inl (some (.int 0))) (cMo (wTh M 1))) := by
  refine gM_of rfl rfl (Nat.le_of_ble_eq_true rfl) (fun sc => ?_)
  refine gW_b D_Mo_taken 0 4 (pc' := 6) (l' := [(0, .ref 0), (1, .int x)]) (st' := [.int 500, .int 1, .int x, .ref 0]) (h' := cMo M) (P := True) rfl trivial ?_
  refine gW_callS (n_in_f x 1 500 h) lk_Mo_32 [] (gdec_at D_Mo_taken 4 rfl) (st := [.ref 0]) rfl rfl ⟨rfl, rfl⟩ (Nat.le_of_ble_eq_true rfl) (Nat.le_of_ble_eq_true rfl) ⟨Nat.le_of_ble_eq_true rfl, Nat.le_of_ble_eq_true rfl⟩ ⟨Nat.le_of_ble_eq_true rfl, Nat.le_of_ble_eq_true rfl⟩ (gAft_r rfl rfl (h' := cMo M) (st' := [.int 0, .ref 0]) (pc' := 9) (cs' := 0) (ss' := 0) rfl rfl rfl rfl rfl ?_)
  refine gW_if_eq (gdec_at D_Mo_taken 5 rfl) (tgt := 16) rfl (fun _ => ?_) (fun cq => absurd (by decide) cq)
  refine gW_b D_Mo_taken 8 4 (pc' := 24) (l' := [(0, .ref 0), (1, .int x)]) (st' := [.int 1]) (h' := cMo (wTh M 1)) (P := True) rfl trivial ?_
  refine gW_if_le (gdec_at D_Mo_taken 12 rfl) (tgt := 31) rfl (fun cq => absurd cq (by decide)) (fun _ => ?_)
  refine gW_b D_Mo_taken 13 2 (pc' := 36) (l' := [(0, .ref 0), (1, .int x)]) (st' := [.int 0]) (h' := cMo (wTh M 1)) (P := True) rfl trivial ?_
  exact gW_iret (gdec_at D_Mo_taken 18 rfl) rfl rfl (Nat.le_of_ble_eq_true rfl) ⟨rfl, rfl⟩ (Nat.le_of_ble_eq_true rfl) (Nat.le_of_ble_eq_true rfl)
theorem k_lacks (M : gMo) (hok : rsOK (mD M)) (t : Nat) (ht : t < 4) (h10 : dSz (mD M) ≤ 10) {sc : Nat × (Nat → Int32)} {n0 : Nat} {E : gO → gH → Prop} (kk : gW K_Mo_lacks sc { frames := 3, locals := 69, cells := 0, slots := 0 } n0 E 0 0 71 [(0, .ref 0), (1, .int (nI t)), (2, .int (lkR (mD M) t (dSz (mD M)))), (3, .int (nI (dSz (mD M))))] [] (cMo M)) : ∀ (n i : Nat), i + n = dSz (mD M) → gW K_Mo_lacks sc { frames := 3, locals := 69, cells := 0, slots := 0 } n0 E 0 0 27 [(0, .ref 0), (1, .int (nI t)), (2, .int (lkR (mD M) t i)), (3, .int (nI i))] [] (cMo M) := by
  intro n
  induction n with
  | zero =>
    intro i hi
    obtain rfl : dSz (mD M) = i := by omega
    refine gW_b D_Mo_lacks 20 5 (pc' := 35) (l' := [(0, .ref 0), (1, .int (nI t)), (2, .int (lkR (mD M) t (dSz (mD M)))), (3, .int (nI (dSz (mD M))))]) (st' := [.int (nI (dSz (mD M))), .int (nI (dSz (mD M)))]) (h' := cMo M) (P := vp_in 52 103 ∧ True) rfl ⟨(gvl 52 103 (by omega) (by omega)), trivial⟩ ?_
    refine gW_ic_ge (gdec_at D_Mo_lacks 25 rfl) (tgt := 71) rfl (fun _ => ?_) (fun cq => absurd ((gle (rfl : nI (dSz (mD M)) = nI (dSz (mD M))) (rfl : nI (dSz (mD M)) = nI (dSz (mD M))) (by omega) (by omega)).mpr (by omega)) cq)
    exact kk
  | succ n ih =>
    intro i hi
    refine gW_b D_Mo_lacks 20 5 (pc' := 35) (l' := [(0, .ref 0), (1, .int (nI t)), (2, .int (lkR (mD M) t i)), (3, .int (nI i))]) (st' := [.int (nI (dSz (mD M))), .int (nI i)]) (h' := cMo M) (P := vp_in 52 103 ∧ True) rfl ⟨(gvl 52 103 (by omega) (by omega)), trivial⟩ ?_
    refine gW_ic_ge (gdec_at D_Mo_lacks 25 rfl) (tgt := 71) rfl (fun cq => absurd cq (mt (gle (rfl : nI (dSz (mD M)) = nI (dSz (mD M))) (rfl : nI i = nI i) (by omega) (by omega)).mp (by omega))) (fun _ => ?_)
    obtain ⟨⟨h10, hr, h5, h51, h52, -⟩, hw, h0⟩ := id hok
    obtain ⟨-, hC, hc⟩ := hr i (by omega)
    have hc1 := hw i (by omega)
    refine gW_b D_Mo_lacks 26 4 (pc' := 42) (l' := [(0, .ref 0), (1, .int (nI t)), (2, .int (lkR (mD M) t i)), (3, .int (nI i))]) (st' := [.int 1, .int (nI i), .ref 0, .int (lkR (mD M) t i)]) (h' := cMo M) (P := True) rfl trivial ?_
    refine gW_callV (n_its M i 1 (by omega) (by omega)) lk_Mo_75 [0, 1, 2, 3, 4, 5, 6] (gdec_at D_Mo_lacks 30 rfl) (st := [.int (lkR (mD M) t i)]) rfl rfl ⟨rfl, rfl⟩ (Nat.le_of_ble_eq_true rfl) rfl (by decide) rfl (Nat.le_of_ble_eq_true rfl) ⟨Nat.le_of_ble_eq_true rfl, Nat.le_of_ble_eq_true rfl⟩ ⟨Nat.le_of_ble_eq_true rfl, Nat.le_of_ble_eq_true rfl⟩ (gAft_r rfl rfl (h' := cMo M) (st' := [.int ((dG (mD M)) (i * 5 + 1)), .int (lkR (mD M) t i)]) (pc' := 45) (cs' := 0) (ss' := 0) rfl rfl rfl rfl rfl ?_)
    refine gW_b D_Mo_lacks 31 1 (pc' := 46) (l' := [(0, .ref 0), (1, .int (nI t)), (2, .int (lkR (mD M) t i)), (3, .int (nI i))]) (st' := [.int (nI t), .int ((dG (mD M)) (i * 5 + 1)), .int (lkR (mD M) t i)]) (h' := cMo M) (P := True) rfl trivial ?_
    refine gW_ic_ne (gdec_at D_Mo_lacks 32 rfl) (tgt := 62) rfl (fun c => ?_) (fun c => ?_)
    · skip
      refine gW_b D_Mo_lacks 40 5 (pc' := 27) (l' := [(0, .ref 0), (1, .int (nI t)), (2, .int ((lkR (mD M) t i) + 0)), (3, .int ((nI i) + 1))]) (st' := []) (h' := cMo M) (P := True) rfl trivial ?_
      rw [show ((nI i) + 1 : Int32) = nI (i + 1) from (gadd (rfl : nI i = nI i) (gk 1))]
      rw [show lkR (mD M) t i + 0 = lkR (mD M) t (i + 1) from by rw [Int32.add_zero]; exact (if_neg c).symm]
      exact ih (i + 1) (by omega)
    · skip
      refine gW_b D_Mo_lacks 33 4 (pc' := 53) (l' := [(0, .ref 0), (1, .int (nI t)), (2, .int (lkR (mD M) t i)), (3, .int (nI i))]) (st' := [.int 2, .int (nI i), .ref 0, .ref 0, .int (lkR (mD M) t i)]) (h' := cMo M) (P := True) rfl trivial ?_
      refine gW_callV (n_its M i 2 (by omega) (by omega)) lk_Mo_75 [0, 1, 2, 3, 4, 5, 6] (gdec_at D_Mo_lacks 37 rfl) (st := [.ref 0, .int (lkR (mD M) t i)]) rfl rfl ⟨rfl, rfl⟩ (Nat.le_of_ble_eq_true rfl) rfl (by decide) rfl (Nat.le_of_ble_eq_true rfl) ⟨Nat.le_of_ble_eq_true rfl, Nat.le_of_ble_eq_true rfl⟩ ⟨Nat.le_of_ble_eq_true rfl, Nat.le_of_ble_eq_true rfl⟩ (gAft_r rfl rfl (h' := cMo M) (st' := [.int ((dG (mD M)) (i * 5 + 2)), .ref 0, .int (lkR (mD M) t i)]) (pc' := 56) (cs' := 0) (ss' := 0) rfl rfl rfl rfl rfl ?_)
      refine gW_st (st' := [.int (nI (tnx (dG (mD M) (i * 5 + 2)))), .ref 0, .int (lkR (mD M) t i)]) (by rw [← hC]) ?_
      refine gW_callV (n_takenFor M (tnx (dSt (mD M) 5)) (tnx (dG (mD M) (i * 5 + 2))) h5 h51 h52 hc1 hc) lk_Mo_98 [0, 1, 2, 3, 4, 5, 6] (gdec_at D_Mo_lacks 38 rfl) (st := [.int (lkR (mD M) t i)]) rfl rfl ⟨rfl, rfl⟩ (Nat.le_of_ble_eq_true rfl) rfl (by decide) rfl (Nat.le_of_ble_eq_true rfl) ⟨Nat.le_of_ble_eq_true rfl, Nat.le_of_ble_eq_true rfl⟩ ⟨Nat.le_of_ble_eq_true rfl, Nat.le_of_ble_eq_true rfl⟩ (gAft_r rfl rfl (h' := cMo M) (st' := [.int (nI (tkN (tnx (dSt (mD M) 5)) (tnx (dG (mD M) (i * 5 + 2))))), .int (lkR (mD M) t i)]) (pc' := 59) (cs' := 0) (ss' := 0) rfl rfl rfl rfl rfl ?_)
      refine gW_b D_Mo_lacks 39 1 (pc' := 63) (l' := [(0, .ref 0), (1, .int (nI t)), (2, .int (lkR (mD M) t i)), (3, .int (nI i))]) (st' := [.int (nI (tkN (tnx (dSt (mD M) 5)) (tnx (dG (mD M) (i * 5 + 2))))), .int (lkR (mD M) t i)]) (h' := cMo M) (P := True) rfl trivial ?_
      refine gW_b D_Mo_lacks 41 4 (pc' := 27) (l' := [(0, .ref 0), (1, .int (nI t)), (2, .int ((lkR (mD M) t i) + (nI (tkN (tnx (dSt (mD M) 5)) (tnx (dG (mD M) (i * 5 + 2))))))), (3, .int ((nI i) + 1))]) (st' := []) (h' := cMo M) (P := True) rfl trivial ?_
      rw [show ((nI i) + 1 : Int32) = nI (i + 1) from (gadd (rfl : nI i = nI i) (gk 1))]
      rw [show lkR (mD M) t i + nI (tkN (tnx (dSt (mD M) 5)) (tnx (dG (mD M) (i * 5 + 2)))) = lkR (mD M) t (i + 1) from (if_pos c).symm]
      exact ih (i + 1) (by omega)
theorem n_lacks (M : gMo) (hok : rsOK (mD M)) (t : Nat) (ht : t < 4) : gM K_Mo_lacks { frames := 3, locals := 69, cells := 0, slots := 0 } [.ref 0, .int (nI t)] (cMo M) (gD (.inl (some (.int (lkI (mD M) t)))) (cMo M)) := by
  refine gM_of rfl rfl (Nat.le_of_ble_eq_true rfl) (fun sc => ?_)
  have h10 := hok.1.1
  have h0 := hok.2.2
  refine gW_b D_Mo_lacks 0 3 (pc' := 3) (l' := [(0, .ref 0), (1, .int (nI t))]) (st' := [.int 0, .int (nI t), .ref 0]) (h' := cMo M) (P := True) rfl trivial ?_
  refine gW_callV (n_inTrays_a M t (by omega)) lk_Mo_101 [0, 1, 2, 3, 4, 5, 6] (gdec_at D_Mo_lacks 3 rfl) (st := []) rfl rfl ⟨rfl, rfl⟩ (Nat.le_of_ble_eq_true rfl) rfl (by decide) rfl (Nat.le_of_ble_eq_true rfl) ⟨Nat.le_of_ble_eq_true rfl, Nat.le_of_ble_eq_true rfl⟩ ⟨Nat.le_of_ble_eq_true rfl, Nat.le_of_ble_eq_true rfl⟩ (gAft_r rfl rfl (h' := cMo M) (st' := [.int (hO (dTr (mD M)) t)]) (pc' := 6) (cs' := 0) (ss' := 0) rfl rfl rfl rfl rfl ?_)
  refine gW_b D_Mo_lacks 4 7 (pc' := 15) (l' := [(0, .ref 0), (1, .int (nI t))]) (st' := [.int (zD (mD M) (0 + (nI t)).toNatClampNeg), .int (-(hO (dTr (mD M)) t))]) (h' := cMo M) (P := vp_in (0 + (nI t)) 103 ∧ True) rfl ⟨(gvin (gadd (gk 0) (rfl : nI t = nI t)) (by omega) (by omega)), trivial⟩ ?_
  rw [show (0 + (nI t)).toNatClampNeg = (0 + t) from gclp (gadd (gk 0) (rfl : nI t = nI t)) (by omega)]
  rw [show (zD (mD M) (0 + t) : Int32) = (dSh (mD M)) (t) from zr_sh (mD M) t (by omega)]
  refine gW_b D_Mo_lacks 11 9 (pc' := 27) (l' := [(0, .ref 0), (1, .int (nI t)), (2, .int ((-(hO (dTr (mD M)) t)) - (((dSh (mD M)) (t)) * ((dSt (mD M)) 0)))), (3, .int 0)]) (st' := []) (h' := cMo M) (P := vp_in 28 103 ∧ True) rfl ⟨(gvl 28 103 (by omega) (by omega)), trivial⟩ ?_
  refine k_lacks M hok t ht h10 ?_ (dSz (mD M)) 0 (Nat.zero_add _)
  refine gW_b D_Mo_lacks 45 1 (pc' := 72) (l' := [(0, .ref 0), (1, .int (nI t)), (2, .int (lkR (mD M) t (dSz (mD M)))), (3, .int (nI (dSz (mD M))))]) (st' := [.int (lkR (mD M) t (dSz (mD M)))]) (h' := cMo M) (P := True) rfl trivial ?_
  refine gW_if_gt (gdec_at D_Mo_lacks 46 rfl) (tgt := 79) rfl (fun c => ?_) (fun c => ?_)
  · skip
    rw [show lkI (mD M) t = (lkR (mD M) t (dSz (mD M)) + dSt (mD M) 0 - 1) / dSt (mD M) 0 from if_neg (Int32.not_le.mpr c)]
    refine gW_b D_Mo_lacks 49 13 (pc' := 98) (l' := [(0, .ref 0), (1, .int (nI t)), (2, .int (lkR (mD M) t (dSz (mD M)))), (3, .int (nI (dSz (mD M))))]) (st' := [.int ((((lkR (mD M) t (dSz (mD M))) + ((dSt (mD M)) 0)) - 1) / ((dSt (mD M)) 0))]) (h' := cMo M) (P := vp_in 28 103 ∧ vp_in 28 103 ∧ ¬ ((dSt (mD M)) 0) = 0 ∧ True) rfl ⟨(gvl 28 103 (by omega) (by omega)), (gvl 28 103 (by omega) (by omega)), h0, trivial⟩ ?_
    exact gW_iret (gdec_at D_Mo_lacks 62 rfl) rfl rfl (Nat.le_of_ble_eq_true rfl) ⟨rfl, rfl⟩ (Nat.le_of_ble_eq_true rfl) (Nat.le_of_ble_eq_true rfl)
  · skip
    rw [show lkI (mD M) t = 0 from if_pos (Int32.not_lt.mp c)]
    refine gW_b D_Mo_lacks 47 2 (pc' := 98) (l' := [(0, .ref 0), (1, .int (nI t)), (2, .int (lkR (mD M) t (dSz (mD M)))), (3, .int (nI (dSz (mD M))))]) (st' := [.int 0]) (h' := cMo M) (P := True) rfl trivial ?_
    exact gW_iret (gdec_at D_Mo_lacks 62 rfl) rfl rfl (Nat.le_of_ble_eq_true rfl) ⟨rfl, rfl⟩ (Nat.le_of_ble_eq_true rfl) (Nat.le_of_ble_eq_true rfl)
theorem n_missing (M : gMo) (hok : rsOK (mD M)) (t : Nat) (ht : t < 4) : gM K_Mo_missing { frames := 4, locals := 92, cells := 0, slots := 0 } [.ref 0, .int (nI t)] (cMo M) (gD (.inl (some (.int (lkI (mD M) t)))) (cMo (wTh M 0))) := by
  refine gM_of rfl rfl (Nat.le_of_ble_eq_true rfl) (fun sc => ?_)
  refine gW_b D_Mo_missing 0 2 (pc' := 2) (l' := [(0, .ref 0), (1, .int (nI t))]) (st' := [.int (nI t), .ref 0]) (h' := cMo M) (P := True) rfl trivial ?_
  refine gW_callS (n_isTone_t t (by omega)) lk_Mo_58 [] (gdec_at D_Mo_missing 2 rfl) (st := [.ref 0]) rfl rfl ⟨rfl, rfl⟩ (Nat.le_of_ble_eq_true rfl) (Nat.le_of_ble_eq_true rfl) ⟨Nat.le_of_ble_eq_true rfl, Nat.le_of_ble_eq_true rfl⟩ ⟨Nat.le_of_ble_eq_true rfl, Nat.le_of_ble_eq_true rfl⟩ (gAft_r rfl rfl (h' := cMo M) (st' := [.int 1, .ref 0]) (pc' := 5) (cs' := 0) (ss' := 0) rfl rfl rfl rfl rfl ?_)
  refine gW_if_eq (gdec_at D_Mo_missing 3 rfl) (tgt := 12) rfl (fun cq => absurd cq (by decide)) (fun _ => ?_)
  refine gW_b D_Mo_missing 4 2 (pc' := 13) (l' := [(0, .ref 0), (1, .int (nI t))]) (st' := [.int 0, .ref 0]) (h' := cMo M) (P := True) rfl trivial ?_
  refine gW_b D_Mo_missing 7 3 (pc' := 20) (l' := [(0, .ref 0), (1, .int (nI t))]) (st' := [.int 0]) (h' := cMo (wTh M 0)) (P := True) rfl trivial ?_
  refine gW_if_le (gdec_at D_Mo_missing 10 rfl) (tgt := 27) rfl (fun _ => ?_) (fun cq => absurd (by decide) cq)
  refine gW_b D_Mo_missing 13 2 (pc' := 29) (l' := [(0, .ref 0), (1, .int (nI t))]) (st' := [.int (nI t), .ref 0]) (h' := cMo (wTh M 0)) (P := True) rfl trivial ?_
  refine gW_callV (n_lacks (wTh M 0) hok t (by omega)) lk_Mo_176 [0, 1, 2, 3, 4, 5, 6] (gdec_at D_Mo_missing 15 rfl) (st := []) rfl rfl ⟨rfl, rfl⟩ (Nat.le_of_ble_eq_true rfl) rfl (by decide) rfl (Nat.le_of_ble_eq_true rfl) ⟨Nat.le_of_ble_eq_true rfl, Nat.le_of_ble_eq_true rfl⟩ ⟨Nat.le_of_ble_eq_true rfl, Nat.le_of_ble_eq_true rfl⟩ (gAft_r rfl rfl (h' := cMo (wTh M 0)) (st' := [.int (lkI (mD M) t)]) (pc' := 32) (cs' := 0) (ss' := 0) rfl rfl rfl rfl rfl ?_)
  exact gW_iret (gdec_at D_Mo_missing 16 rfl) rfl rfl (Nat.le_of_ble_eq_true rfl) ⟨rfl, rfl⟩ (Nat.le_of_ble_eq_true rfl) (Nat.le_of_ble_eq_true rfl)
theorem n_missing_x (M : gMo) (i : Int32) (h : i < 0 ∨ 4 ≤ i) : gM K_Mo_missing { frames := 4, locals := 92, cells := 0, slots := 0 } [.ref 0, .int i] (cMo M) (gD (.inl (some (.int 0))) (cMo (wTh M 1))) := by
  refine gM_of rfl rfl (Nat.le_of_ble_eq_true rfl) (fun sc => ?_)
  refine gW_b D_Mo_missing 0 2 (pc' := 2) (l' := [(0, .ref 0), (1, .int i)]) (st' := [.int i, .ref 0]) (h' := cMo M) (P := True) rfl trivial ?_
  refine gW_callS (n_isTone_f i h) lk_Mo_58 [] (gdec_at D_Mo_missing 2 rfl) (st := [.ref 0]) rfl rfl ⟨rfl, rfl⟩ (Nat.le_of_ble_eq_true rfl) (Nat.le_of_ble_eq_true rfl) ⟨Nat.le_of_ble_eq_true rfl, Nat.le_of_ble_eq_true rfl⟩ ⟨Nat.le_of_ble_eq_true rfl, Nat.le_of_ble_eq_true rfl⟩ (gAft_r rfl rfl (h' := cMo M) (st' := [.int 0, .ref 0]) (pc' := 5) (cs' := 0) (ss' := 0) rfl rfl rfl rfl rfl ?_)
  refine gW_if_eq (gdec_at D_Mo_missing 3 rfl) (tgt := 12) rfl (fun _ => ?_) (fun cq => absurd (by decide) cq)
  refine gW_b D_Mo_missing 6 4 (pc' := 20) (l' := [(0, .ref 0), (1, .int i)]) (st' := [.int 1]) (h' := cMo (wTh M 1)) (P := True) rfl trivial ?_
  refine gW_if_le (gdec_at D_Mo_missing 10 rfl) (tgt := 27) rfl (fun cq => absurd cq (by decide)) (fun _ => ?_)
  refine gW_b D_Mo_missing 11 2 (pc' := 32) (l' := [(0, .ref 0), (1, .int i)]) (st' := [.int 0]) (h' := cMo (wTh M 1)) (P := True) rfl trivial ?_
  exact gW_iret (gdec_at D_Mo_missing 16 rfl) rfl rfl (Nat.le_of_ble_eq_true rfl) ⟨rfl, rfl⟩ (Nat.le_of_ble_eq_true rfl) (Nat.le_of_ble_eq_true rfl)
