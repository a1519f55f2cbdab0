/-! THE REFERENCE's methods: digest. Printed by wip/whole/meths22.py -/
theorem zr_tq (D : gDom) (q : Nat) (hq : q < 24) : zD D (4 + q) = dTr D q := by
  rw [zD_2 (by omega) (by omega)]
  exact congrArg (dTr D) (by omega)
def cvR (D : gDom) (n k : Nat) : Int32 := match k with
  | 0 => dDy D
  | 1 => nI (dSz D)
  | 2 => dDn D
  | 3 => dLt D
  | 4 => dLd D
  | 5 => nI (mxc (dTr D) 6)
  | 6 => nI (emR (dTr D) 6)
  | 7 => sum4 (dSw D)
  | 8 => dSo D
  | _ => nI n
theorem n_countedC (M : gMo) (k : Nat) (hk : k < 10) : gM K_Mo_counted { frames := 3, locals := 68, cells := 0, slots := 0 } [.ref 0, .int (nI k)] (cMo M) (gD (.inl (some (.int (cvR (mD M) (mN M) k)))) (cMo M)) := by
  match k, hk with
  | 0, _ => exact n_counted_0 M
  | 1, _ => exact n_counted_1 M
  | 2, _ => exact n_counted_2 M
  | 3, _ => exact n_counted_3 M
  | 4, _ => exact n_counted_4 M
  | 5, _ => exact n_counted_5 M
  | 6, _ => exact n_counted_6 M
  | 7, _ => exact n_counted_7 M
  | 8, _ => exact n_counted_8 M
  | 9, _ => exact n_counted_9 M
def tvR (D : gDom) (t k : Nat) : Int32 := match k with
  | 0 => dSh D t
  | 1 => hO (dTr D) t
  | 2 => rpI (dTr D) t 6
  | 3 => dCu D t
  | 4 => dLa D t
  | 5 => dSw D t
  | _ => wtc (dG D) (nI t) (dSz D)
theorem n_toldToneC (M : gMo) (hs : dSz (mD M) ≤ 10) (t k : Nat) (ht : t < 4) (hk : k < 7) : gM K_Mo_toldTone { frames := 3, locals := 69, cells := 0, slots := 0 } [.ref 0, .int (nI t), .int (nI k)] (cMo M) (gD (.inl (some (.int (tvR (mD M) t k)))) (cMo M)) := by
  match k, hk with
  | 0, _ => exact n_toldTone_0 M hs t ht
  | 1, _ => exact n_toldTone_1 M hs t ht
  | 2, _ => exact n_toldTone_2 M hs t ht
  | 3, _ => exact n_toldTone_3 M hs t ht
  | 4, _ => exact n_toldTone_4 M hs t ht
  | 5, _ => exact n_toldTone_5 M hs t ht
  | 6, _ => exact n_toldTone_6 M hs t ht
def mxS (D : gDom) (h : Int64) : Nat → Int64
  | 0 => h
  | p + 1 => 31 * hfo (sVr D p) (mxS D h p) 6 + (dtC (sVr D p 0) 60 1 D).toInt64
def hTs (D : gDom) (h : Int64) : Nat → Int64
  | 0 => h
  | t + 1 => 31 * hfo (tvR D t) (hTs D h t) 7 + (lkI D t).toInt64
def vI (bf : Nat → Int32) (ty : Nat) (h : Int64) : Int64 := hfo bf (31 * h + (nI ty).toInt64) ty
def vH (N : Nat) (D : gDom) (bf : Nat → Int32) (ty : Nat) (h : Int64) : Int64 := vI bf ty (31 * h + brV N (shV D))
def vG (N e : Nat) (D : gDom) (bf : Nat → Int32) (ty : Nat) (h : Int64) : Int64 := vH N D bf ty (31 * h + (bfI D e).toInt64)
def vF3 (N d e : Nat) (D : gDom) (bf : Nat → Int32) (ty : Nat) (h : Int64) : Int64 := vG N e D bf ty (31 * h + (sum4 (dSw (dyC D d).1) - sum4 (dSw D)).toInt64)
def vF2 (N d e : Nat) (D : gDom) (bf : Nat → Int32) (ty : Nat) (h : Int64) : Int64 := vF3 N d e D bf ty (31 * h + (dLd (dyC D d).1 - dLd D).toInt64)
def vF1 (N d e : Nat) (D : gDom) (bf : Nat → Int32) (ty : Nat) (h : Int64) : Int64 := vF2 N d e D bf ty (31 * h + (dDn (dyC D d).1 - dDn D).toInt64)
def vF0 (N d e : Nat) (D : gDom) (bf : Nat → Int32) (ty : Nat) (h : Int64) : Int64 := vF1 N d e D bf ty (31 * h + (dyC D d).2.toInt64)
def vF (N d e : Nat) (D : gDom) (bf : Nat → Int32) (ty : Nat) (h : Int64) : Int64 := vF0 N d e D bf ty (31 * h + (nI (tkN (tnx (dSt D 5)) 100)).toInt64)
def vE (N d e : Nat) (D : gDom) (bf : Nat → Int32) (ty : Nat) (h : Int64) : Int64 := vF N d e D bf ty (hTs D h 4)
def vD (N d e : Nat) (D : gDom) (bf : Nat → Int32) (ty : Nat) (h : Int64) : Int64 := vE N d e D bf ty (mxS D h (dSz D))
def vC (N d e : Nat) (D : gDom) (bf : Nat → Int32) (ty : Nat) (h : Int64) : Int64 := vD N d e D bf ty (hfo (dTr D) h 24)
def vB (N d e : Nat) (D : gDom) (bf : Nat → Int32) (ty : Nat) (h : Int64) : Int64 := vC N d e D bf ty (hfo (dSt D) h 6)
def vA (N d e : Nat) (D : gDom) (n : Nat) (bf : Nat → Int32) (ty : Nat) (h : Int64) : Int64 := vB N d e D bf ty (hfo (cvR D n) h 10)
theorem n_mix (M : gMo) (v : Int64) : gM K_Mo_mix { frames := 0, locals := 0, cells := 0, slots := 0 } [.ref 0, .long v] (cMo M) (gD (.inl none) (cMo (wHs M (31 * mHs M + v)))) := by
  refine gM_of rfl rfl (Nat.le_of_ble_eq_true rfl) (fun sc => ?_)
  refine gW_b D_Mo_mix 0 8 (pc' := 14) (l' := [(0, .ref 0), (1, .long v)]) (st' := []) (h' := cMo (wHs M ((31 * (mHs M)) + v))) (P := True) rfl trivial ?_
  exact gW_vret (gdec_at D_Mo_mix 8 rfl) rfl (Nat.le_of_ble_eq_true rfl) ⟨rfl, rfl⟩ (Nat.le_of_ble_eq_true rfl) (Nat.le_of_ble_eq_true rfl)
theorem l_mix2 (M : gMo) (hok : rOK (mD M)) (i : Nat) (hpi : i < dSz (mD M)) (h : Int64) (od : Nat → Nat) (st : Nat) (ho : odOK od) {sc : Nat × (Nat → Int32)} {n0 : Nat} {E : gO → gH → Prop} {sp : gDom} (kk : ∀ (od : Nat → Nat) (st : Nat) (sp : gDom), odOK od → gW K_Mo_mixSections sc { frames := 7, locals := 162, cells := 0, slots := 0 } n0 E 0 0 2 [(0, .ref 0), (1, .int (nI (i + 1)))] [] (cMo (wSp (wSt (wOd (wHs M (31 * h + (dtC (sVr (mD M) i 0) 60 1 (mD M)).toInt64)) od) st) sp))) : gW K_Mo_mixSections sc { frames := 7, locals := 162, cells := 0, slots := 0 } n0 E 0 0 37 [(0, .ref 0), (1, .int (nI i))] [] (cMo (wSp (wSt (wOd (wHs M h) od) st) sp)) := by
  have h10 := hok.1
  refine gW_b D_Mo_mixSections 22 5 (pc' := 42) (l' := [(0, .ref 0), (1, .int (nI i))]) (st' := [.int 0, .int (nI i), .ref 0, .ref 0, .ref 0]) (h' := cMo (wHs (wSt (wOd (wSp M sp) od) st) h)) (P := True) rfl trivial ?_
  refine gW_callV (n_toldC (wHs (wSt (wOd (wSp M sp) od) st) h) hok ho i 0 hpi (by omega)) lk_Mo_157 [0, 1, 2, 3, 4, 5, 6] (gdec_at D_Mo_mixSections 27 rfl) (st := [.ref 0, .ref 0]) rfl rfl ⟨rfl, rfl⟩ (Nat.le_of_ble_eq_true rfl) rfl (by decide) rfl (Nat.le_of_ble_eq_true rfl) ⟨Nat.le_of_ble_eq_true rfl, Nat.le_of_ble_eq_true rfl⟩ ⟨Nat.le_of_ble_eq_true rfl, Nat.le_of_ble_eq_true rfl⟩ (gAft_o rfl rfl (st' := [.int (sVr (mD M) i 0), .ref 0, .ref 0]) (pc' := 45) (cs' := 0) (ss' := 0) rfl rfl rfl rfl (fun od16 st16 ho16 => ?_))
  refine gW_callV (n_daysTo (wHs (wSt (wOd (wSp M sp) od16) st16) h) hok ho16 (sVr (mD M) i 0)) lk_Mo_188 [0, 1, 2, 3, 4, 5, 6] (gdec_at D_Mo_mixSections 28 rfl) (st := [.ref 0]) rfl rfl ⟨rfl, rfl⟩ (Nat.le_of_ble_eq_true rfl) rfl (by decide) rfl (Nat.le_of_ble_eq_true rfl) ⟨Nat.le_of_ble_eq_true rfl, Nat.le_of_ble_eq_true rfl⟩ ⟨Nat.le_of_ble_eq_true rfl, Nat.le_of_ble_eq_true rfl⟩ (gAft_e rfl rfl (st' := [.int (dtC (sVr (mD M) i 0) 60 1 (mD M)), .ref 0]) (pc' := 48) (cs' := 0) (ss' := 0) rfl rfl rfl rfl (fun od17 st17 sp17 ho17 => ?_))
  refine gW_b D_Mo_mixSections 29 1 (pc' := 49) (l' := [(0, .ref 0), (1, .int (nI i))]) (st' := [.long ((dtC (sVr (mD M) i 0) 60 1 (mD M)).toInt64), .ref 0]) (h' := cMo (wHs (wSt (wOd (wSp M sp17) od17) st17) h)) (P := True) rfl trivial ?_
  refine gW_callV (n_mix (wHs (wSt (wOd (wSp M sp17) od17) st17) h) ((dtC (sVr (mD M) i 0) 60 1 (mD M)).toInt64)) lk_Mo_212 [0, 1, 2, 3, 4, 5, 6] (gdec_at D_Mo_mixSections 30 rfl) (st := []) rfl rfl ⟨rfl, rfl⟩ (Nat.le_of_ble_eq_true rfl) rfl (by decide) rfl (Nat.le_of_ble_eq_true rfl) ⟨Nat.le_of_ble_eq_true rfl, Nat.le_of_ble_eq_true rfl⟩ ⟨Nat.le_of_ble_eq_true rfl, Nat.le_of_ble_eq_true rfl⟩ (gAft_r rfl rfl (h' := cMo (wHs (wSt (wOd (wSp M sp17) od17) st17) (31 * h + ((dtC (sVr (mD M) i 0) 60 1 (mD M)).toInt64)))) (st' := []) (pc' := 52) (cs' := 0) (ss' := 0) rfl rfl rfl rfl rfl ?_)
  refine gW_b D_Mo_mixSections 31 2 (pc' := 2) (l' := [(0, .ref 0), (1, .int ((nI i) + 1))]) (st' := []) (h' := cMo (wHs (wSt (wOd (wSp M sp17) od17) st17) (31 * h + ((dtC (sVr (mD M) i 0) 60 1 (mD M)).toInt64)))) (P := True) rfl trivial ?_
  rw [show ((nI i) + 1 : Int32) = nI (i + 1) from (gadd (rfl : nI i = nI i) (gk 1))]
  refine gW_l [0, 1] (l' := [(0, .ref 0), (1, .int (nI (i + 1)))]) rfl ?_
  exact kk _ _ _ ho17
theorem l_mix (M : gMo) (hok : rOK (mD M)) (p : Nat) (hp : p < dSz (mD M)) (h : Int64) {sc : Nat × (Nat → Int32)} {n0 : Nat} {E : gO → gH → Prop} {sp : gDom} (kk : ∀ (od : Nat → Nat) (st : Nat), odOK od → gW K_Mo_mixSections sc { frames := 7, locals := 162, cells := 0, slots := 0 } n0 E 0 0 37 [(0, .ref 0), (1, .int (nI p))] [] (cMo (wSp (wSt (wOd (wHs M (hfo (sVr (mD M) p) h 6)) od) st) sp))) : ∀ (n k : Nat) (od : Nat → Nat) (st : Nat), k + n = 6 → odOK od → gW K_Mo_mixSections sc { frames := 7, locals := 162, cells := 0, slots := 0 } n0 E 0 0 15 [(0, .ref 0), (1, .int (nI p)), (2, .int (nI k))] [] (cMo (wSp (wSt (wOd (wHs M (hfo (sVr (mD M) p) h k)) od) st) sp)) := by
  have h10 := hok.1
  intro n
  induction n with
  | zero =>
    intro k od st hi ho
    obtain rfl : 6 = k := by omega
    refine gW_b D_Mo_mixSections 10 2 (pc' := 17) (l' := [(0, .ref 0), (1, .int (nI p)), (2, .int (nI 6))]) (st' := [.int 5, .int (nI 6)]) (h' := cMo (wHs (wSt (wOd (wSp M sp) od) st) (hfo (sVr (mD M) p) h 6))) (P := True) rfl trivial ?_
    refine gW_ic_gt (gdec_at D_Mo_mixSections 12 rfl) (tgt := 37) rfl (fun _ => ?_) (fun cq => absurd ((glt (gk 5) (rfl : nI 6 = nI 6) (by omega) (by omega)).mpr (by omega)) cq)
    refine gW_l [0, 1] (l' := [(0, .ref 0), (1, .int (nI p))]) rfl ?_
    exact kk od st ho
  | succ n ih =>
    intro k od st hi ho
    refine gW_b D_Mo_mixSections 10 2 (pc' := 17) (l' := [(0, .ref 0), (1, .int (nI p)), (2, .int (nI k))]) (st' := [.int 5, .int (nI k)]) (h' := cMo (wHs (wSt (wOd (wSp M sp) od) st) (hfo (sVr (mD M) p) h k))) (P := True) rfl trivial ?_
    refine gW_ic_gt (gdec_at D_Mo_mixSections 12 rfl) (tgt := 37) rfl (fun cq => absurd cq (mt (glt (gk 5) (rfl : nI k = nI k) (by omega) (by omega)).mp (by omega))) (fun _ => ?_)
    refine gW_b D_Mo_mixSections 13 4 (pc' := 24) (l' := [(0, .ref 0), (1, .int (nI p)), (2, .int (nI k))]) (st' := [.int (nI k), .int (nI p), .ref 0, .ref 0]) (h' := cMo (wHs (wSt (wOd (wSp M sp) od) st) (hfo (sVr (mD M) p) h k))) (P := True) rfl trivial ?_
    refine gW_callV (n_toldC (wHs (wSt (wOd (wSp M sp) od) st) (hfo (sVr (mD M) p) h k)) hok ho p k hp (by omega)) lk_Mo_157 [0, 1, 2, 3, 4, 5, 6] (gdec_at D_Mo_mixSections 17 rfl) (st := [.ref 0]) rfl rfl ⟨rfl, rfl⟩ (Nat.le_of_ble_eq_true rfl) rfl (by decide) rfl (Nat.le_of_ble_eq_true rfl) ⟨Nat.le_of_ble_eq_true rfl, Nat.le_of_ble_eq_true rfl⟩ ⟨Nat.le_of_ble_eq_true rfl, Nat.le_of_ble_eq_true rfl⟩ (gAft_o rfl rfl (st' := [.int (sVr (mD M) p k), .ref 0]) (pc' := 27) (cs' := 0) (ss' := 0) rfl rfl rfl rfl (fun od18 st18 ho18 => ?_))
    refine gW_b D_Mo_mixSections 18 1 (pc' := 28) (l' := [(0, .ref 0), (1, .int (nI p)), (2, .int (nI k))]) (st' := [.long ((sVr (mD M) p k).toInt64), .ref 0]) (h' := cMo (wHs (wSt (wOd (wSp M sp) od18) st18) (hfo (sVr (mD M) p) h k))) (P := True) rfl trivial ?_
    refine gW_callV (n_mix (wHs (wSt (wOd (wSp M sp) od18) st18) (hfo (sVr (mD M) p) h k)) ((sVr (mD M) p k).toInt64)) lk_Mo_212 [0, 1, 2, 3, 4, 5, 6] (gdec_at D_Mo_mixSections 19 rfl) (st := []) rfl rfl ⟨rfl, rfl⟩ (Nat.le_of_ble_eq_true rfl) rfl (by decide) rfl (Nat.le_of_ble_eq_true rfl) ⟨Nat.le_of_ble_eq_true rfl, Nat.le_of_ble_eq_true rfl⟩ ⟨Nat.le_of_ble_eq_true rfl, Nat.le_of_ble_eq_true rfl⟩ (gAft_r rfl rfl (h' := cMo (wHs (wSt (wOd (wSp M sp) od18) st18) (31 * (hfo (sVr (mD M) p) h k) + ((sVr (mD M) p k).toInt64)))) (st' := []) (pc' := 31) (cs' := 0) (ss' := 0) rfl rfl rfl rfl rfl ?_)
    refine gW_b D_Mo_mixSections 20 2 (pc' := 15) (l' := [(0, .ref 0), (1, .int (nI p)), (2, .int ((nI k) + 1))]) (st' := []) (h' := cMo (wHs (wSt (wOd (wSp M sp) od18) st18) (31 * (hfo (sVr (mD M) p) h k) + ((sVr (mD M) p k).toInt64)))) (P := True) rfl trivial ?_
    rw [show ((nI k) + 1 : Int32) = nI (k + 1) from (gadd (rfl : nI k = nI k) (gk 1))]
    exact ih (k + 1) _ _ (by omega) ho18
theorem k_mixSections (M : gMo) (hok : rOK (mD M)) {sc : Nat × (Nat → Int32)} {n0 : Nat} (hn0 : n0 ≤ 7) : ∀ (n i : Nat) (od : Nat → Nat) (st : Nat) (sp : gDom), i + n = dSz (mD M) → odOK od → gW K_Mo_mixSections sc { frames := 7, locals := 162, cells := 0, slots := 0 } n0 (gXs none (wHs M (mxS (mD M) (mHs M) (dSz (mD M))))) 0 0 2 [(0, .ref 0), (1, .int (nI i))] [] (cMo (wSp (wSt (wOd (wHs M (mxS (mD M) (mHs M) i)) od) st) sp)) := by
  have h10 := hok.1
  intro n
  induction n with
  | zero =>
    intro i od st sp hi ho
    obtain rfl : dSz (mD M) = i := by omega
    refine gW_b D_Mo_mixSections 2 5 (pc' := 10) (l' := [(0, .ref 0), (1, .int (nI (dSz (mD M))))]) (st' := [.int (nI (dSz (mD M))), .int (nI (dSz (mD M)))]) (h' := cMo (wHs (wSt (wOd (wSp M sp) od) st) (mxS (mD M) (mHs M) (dSz (mD M))))) (P := vp_in 52 103 ∧ True) rfl ⟨(gvl 52 103 (by omega) (by omega)), trivial⟩ ?_
    refine gW_ic_ge (gdec_at D_Mo_mixSections 7 rfl) (tgt := 58) rfl (fun _ => ?_) (fun cq => absurd ((gle (rfl : nI (dSz (mD M)) = nI (dSz (mD M))) (rfl : nI (dSz (mD M)) = nI (dSz (mD M))) (by omega) (by omega)).mpr (by omega)) cq)
    exact gW_vret (gdec_at D_Mo_mixSections 33 rfl) rfl hn0 ⟨od, st, sp, ho, rfl, rfl⟩ (Nat.le_of_ble_eq_true rfl) (Nat.le_of_ble_eq_true rfl)
  | succ n ih =>
    intro i od st sp hi ho
    have hpi : i < dSz (mD M) := by omega
    refine gW_b D_Mo_mixSections 2 5 (pc' := 10) (l' := [(0, .ref 0), (1, .int (nI i))]) (st' := [.int (nI (dSz (mD M))), .int (nI i)]) (h' := cMo (wHs (wSt (wOd (wSp M sp) od) st) (mxS (mD M) (mHs M) i))) (P := vp_in 52 103 ∧ True) rfl ⟨(gvl 52 103 (by omega) (by omega)), trivial⟩ ?_
    refine gW_ic_ge (gdec_at D_Mo_mixSections 7 rfl) (tgt := 58) rfl (fun cq => absurd cq (mt (gle (rfl : nI (dSz (mD M)) = nI (dSz (mD M))) (rfl : nI i = nI i) (by omega) (by omega)).mp (by omega))) (fun _ => ?_)
    refine gW_b D_Mo_mixSections 8 2 (pc' := 15) (l' := [(0, .ref 0), (1, .int (nI i)), (2, .int 0)]) (st' := []) (h' := cMo (wHs (wSt (wOd (wSp M sp) od) st) (mxS (mD M) (mHs M) i))) (P := True) rfl trivial ?_
    refine l_mix M hok i (by omega) (mxS (mD M) (mHs M) i) (fun od st ho => ?_) 6 0 od st rfl ho
    refine l_mix2 M hok i hpi (hfo (sVr (mD M) i) (mxS (mD M) (mHs M) i) 6) od st ho (fun od st sp ho => ?_)
    rw [show 31 * hfo (sVr (mD M) i) (mxS (mD M) (mHs M) i) 6 + (dtC (sVr (mD M) i 0) 60 1 (mD M)).toInt64 = mxS (mD M) (mHs M) (i + 1) from rfl]
    exact ih (i + 1) od st sp (by omega) ho
theorem n_mixSections (M : gMo) (hok : rOK (mD M)) (ho : odOK (mOd M))  : gM K_Mo_mixSections { frames := 7, locals := 162, cells := 0, slots := 0 } [.ref 0] (cMo M) (gXs none (wHs M (mxS (mD M) (mHs M) (dSz (mD M))))) := by
  refine gM_of rfl rfl (Nat.le_of_ble_eq_true rfl) (fun sc => ?_)
  refine gW_b D_Mo_mixSections 0 2 (pc' := 2) (l' := [(0, .ref 0), (1, .int 0)]) (st' := []) (h' := cMo M) (P := True) rfl trivial ?_
  exact k_mixSections M hok (n0 := 7) (Nat.le_refl 7) (dSz (mD M)) 0 (mOd M) (mSt M) (mSp M) (Nat.zero_add _) ho
theorem l_dgI (M : gMo) (h : Int64) (h60 : mTy M ≤ 60) {sc : Nat × (Nat → Int32)} {n0 : Nat} {E : gO → gH → Prop} (kk : gW K_Mo_digest sc { frames := 9, locals := 212, cells := 0, slots := 0 } n0 E 0 0 235 [(0, .ref 0), (1, .int (nI (mTy M)))] [] (cMo (wHs M (hfo (mBf M) h (mTy M))))) : ∀ (n i : Nat), i + n = mTy M → gW K_Mo_digest sc { frames := 9, locals := 212, cells := 0, slots := 0 } n0 E 0 0 210 [(0, .ref 0), (1, .int (nI i))] [] (cMo (wHs M (hfo (mBf M) h i))) := by
  intro n
  induction n with
  | zero =>
    intro i hi
    obtain rfl : mTy M = i := by omega
    refine gW_b D_Mo_digest 118 3 (pc' := 215) (l' := [(0, .ref 0), (1, .int (nI (mTy M)))]) (st' := [.int (nI (mTy M)), .int (nI (mTy M))]) (h' := cMo (wHs M (hfo (mBf M) h (mTy M)))) (P := True) rfl trivial ?_
    refine gW_ic_ge (gdec_at D_Mo_digest 121 rfl) (tgt := 235) rfl (fun _ => ?_) (fun cq => absurd ((gle (rfl : nI (mTy M) = nI (mTy M)) (rfl : nI (mTy M) = nI (mTy M)) (by omega) (by omega)).mpr (by omega)) cq)
    exact kk
  | succ n ih =>
    intro i hi
    refine gW_b D_Mo_digest 118 3 (pc' := 215) (l' := [(0, .ref 0), (1, .int (nI i))]) (st' := [.int (nI (mTy M)), .int (nI i)]) (h' := cMo (wHs M (hfo (mBf M) h i))) (P := True) rfl trivial ?_
    refine gW_ic_ge (gdec_at D_Mo_digest 121 rfl) (tgt := 235) rfl (fun cq => absurd cq (mt (gle (rfl : nI (mTy M) = nI (mTy M)) (rfl : nI i = nI i) (by omega) (by omega)).mp (by omega))) (fun _ => ?_)
    refine gW_b D_Mo_digest 122 6 (pc' := 226) (l' := [(0, .ref 0), (1, .int (nI i))]) (st' := [.long (((mBf M) ((nI i).toNatClampNeg)).toInt64), .ref 0]) (h' := cMo (wHs M (hfo (mBf M) h i))) (P := vp_in (nI i) 60 ∧ True) rfl ⟨(gvin (rfl : nI i = nI i) (by omega) (by omega)), trivial⟩ ?_
    rw [show (nI i).toNatClampNeg = i from gclp (rfl : nI i = nI i) (by omega)]
    refine gW_callV (n_mix (wHs M (hfo (mBf M) h i)) (((mBf M) (i)).toInt64)) lk_Mo_212 [0, 1, 2, 3, 4, 5, 6] (gdec_at D_Mo_digest 128 rfl) (st := []) rfl rfl ⟨rfl, rfl⟩ (Nat.le_of_ble_eq_true rfl) rfl (by decide) rfl (Nat.le_of_ble_eq_true rfl) ⟨Nat.le_of_ble_eq_true rfl, Nat.le_of_ble_eq_true rfl⟩ ⟨Nat.le_of_ble_eq_true rfl, Nat.le_of_ble_eq_true rfl⟩ (gAft_r rfl rfl (h' := cMo (wHs M (31 * (hfo (mBf M) h i) + (((mBf M) (i)).toInt64)))) (st' := []) (pc' := 229) (cs' := 0) (ss' := 0) rfl rfl rfl rfl rfl ?_)
    refine gW_b D_Mo_digest 129 2 (pc' := 210) (l' := [(0, .ref 0), (1, .int ((nI i) + 1))]) (st' := []) (h' := cMo (wHs M (31 * (hfo (mBf M) h i) + (((mBf M) (i)).toInt64)))) (P := True) rfl trivial ?_
    rw [show ((nI i) + 1 : Int32) = nI (i + 1) from (gadd (rfl : nI i = nI i) (gk 1))]
    exact ih (i + 1) (by omega)
theorem k_dgI (M : gMo) (h60 : mTy M ≤ 60) (ho : odOK (mOd M)) {sc : Nat × (Nat → Int32)} {n0 : Nat} (hn0 : n0 ≤ 7) : gW K_Mo_digest sc { frames := 9, locals := 212, cells := 0, slots := 0 } n0 (gXs (some (.long (vI (mBf M) (mTy M) (mHs M)))) (wHs M (vI (mBf M) (mTy M) (mHs M)))) 0 0 199 [(0, .ref 0)] [] (cMo M) := by
  refine gW_b D_Mo_digest 111 4 (pc' := 205) (l' := [(0, .ref 0)]) (st' := [.long ((nI (mTy M)).toInt64), .ref 0]) (h' := cMo M) (P := True) rfl trivial ?_
  refine gW_callV (n_mix M ((nI (mTy M)).toInt64)) lk_Mo_212 [0, 1, 2, 3, 4, 5, 6] (gdec_at D_Mo_digest 115 rfl) (st := []) rfl rfl ⟨rfl, rfl⟩ (Nat.le_of_ble_eq_true rfl) rfl (by decide) rfl (Nat.le_of_ble_eq_true rfl) ⟨Nat.le_of_ble_eq_true rfl, Nat.le_of_ble_eq_true rfl⟩ ⟨Nat.le_of_ble_eq_true rfl, Nat.le_of_ble_eq_true rfl⟩ (gAft_r rfl rfl (h' := cMo (wHs M (31 * (mHs M) + ((nI (mTy M)).toInt64)))) (st' := []) (pc' := 208) (cs' := 0) (ss' := 0) rfl rfl rfl rfl rfl ?_)
  refine gW_b D_Mo_digest 116 2 (pc' := 210) (l' := [(0, .ref 0), (1, .int 0)]) (st' := []) (h' := cMo (wHs M (31 * (mHs M) + ((nI (mTy M)).toInt64)))) (P := True) rfl trivial ?_
  refine l_dgI M (31 * mHs M + (nI (mTy M)).toInt64) h60 ?_ (mTy M) 0 (Nat.zero_add _)
  refine gW_b D_Mo_digest 131 2 (pc' := 239) (l' := [(0, .ref 0), (1, .int (nI (mTy M)))]) (st' := [.long (vI (mBf M) (mTy M) (mHs M))]) (h' := cMo (wHs M (vI (mBf M) (mTy M) (mHs M)))) (P := True) rfl trivial ?_
  exact gW_lret (gdec_at D_Mo_digest 133 rfl) rfl hn0 ⟨mOd M, mSt M, mSp M, ho, rfl, rfl⟩ (Nat.le_of_ble_eq_true rfl) (Nat.le_of_ble_eq_true rfl)
theorem k_dgH (M : gMo) (h60 : mTy M ≤ 60) (hok : rsOK (mD M)) (N : Nat) (hq : ¬ sum4 (dCu (mD M)) = 0 → vf_n64 (FP.ddiv (FP.i2d (sum4 (dLa (mD M)))) (FP.i2d (sum4 (dCu (mD M)))))) (hk : ¬ Op.cmpValue (FP.dcmp (shV (mD M)) FP.dconst0) .l = 0 → brQ N (shV (mD M))) (ho : odOK (mOd M)) {sc : Nat × (Nat → Int32)} {n0 : Nat} (hn0 : n0 ≤ 7) : gW K_Mo_digest sc { frames := 9, locals := 212, cells := 0, slots := 0 } n0 (gXs (some (.long (vH N (mD M) (mBf M) (mTy M) (mHs M)))) (wHs M (vH N (mD M) (mBf M) (mTy M) (mHs M)))) 0 0 188 [(0, .ref 0)] [] (cMo M) := by
  refine gW_b D_Mo_digest 106 2 (pc' := 190) (l' := [(0, .ref 0)]) (st' := [.ref 0, .ref 0]) (h' := cMo M) (P := True) rfl trivial ?_
  refine gW_callV (n_share M hq) lk_Mo_194 [0, 1, 2, 3, 4, 5, 6] (gdec_at D_Mo_digest 108 rfl) (st := [.ref 0]) rfl rfl ⟨rfl, rfl⟩ (Nat.le_of_ble_eq_true rfl) rfl (by decide) rfl (Nat.le_of_ble_eq_true rfl) ⟨Nat.le_of_ble_eq_true rfl, Nat.le_of_ble_eq_true rfl⟩ ⟨Nat.le_of_ble_eq_true rfl, Nat.le_of_ble_eq_true rfl⟩ (gAft_r rfl rfl (h' := cMo M) (st' := [.double (shV (mD M)), .ref 0]) (pc' := 193) (cs' := 0) (ss' := 0) rfl rfl rfl rfl rfl ?_)
  refine gW_callS (n_bitsOf N (shV (mD M)) hk) lk_Mo_221 [] (gdec_at D_Mo_digest 109 rfl) (st := [.ref 0]) rfl rfl ⟨rfl, rfl⟩ (Nat.le_of_ble_eq_true rfl) (Nat.le_of_ble_eq_true rfl) ⟨Nat.le_of_ble_eq_true rfl, Nat.le_of_ble_eq_true rfl⟩ ⟨Nat.le_of_ble_eq_true rfl, Nat.le_of_ble_eq_true rfl⟩ (gAft_r rfl rfl (h' := cMo M) (st' := [.long (brV N (shV (mD M))), .ref 0]) (pc' := 196) (cs' := 0) (ss' := 0) rfl rfl rfl rfl rfl ?_)
  refine gW_callV (n_mix M (brV N (shV (mD M)))) lk_Mo_212 [0, 1, 2, 3, 4, 5, 6] (gdec_at D_Mo_digest 110 rfl) (st := []) rfl rfl ⟨rfl, rfl⟩ (Nat.le_of_ble_eq_true rfl) rfl (by decide) rfl (Nat.le_of_ble_eq_true rfl) ⟨Nat.le_of_ble_eq_true rfl, Nat.le_of_ble_eq_true rfl⟩ ⟨Nat.le_of_ble_eq_true rfl, Nat.le_of_ble_eq_true rfl⟩ (gAft_r rfl rfl (h' := cMo (wHs M (31 * (mHs M) + (brV N (shV (mD M)))))) (st' := []) (pc' := 199) (cs' := 0) (ss' := 0) rfl rfl rfl rfl rfl ?_)
  exact k_dgI (wHs M (31 * (mHs M) + (brV N (shV (mD M))))) h60 ho hn0
theorem k_dgG (M : gMo) (h60 : mTy M ≤ 60) (hok : rsOK (mD M)) (N : Nat) (hq : ¬ sum4 (dCu (mD M)) = 0 → vf_n64 (FP.ddiv (FP.i2d (sum4 (dLa (mD M)))) (FP.i2d (sum4 (dCu (mD M)))))) (hk : ¬ Op.cmpValue (FP.dcmp (shV (mD M)) FP.dconst0) .l = 0 → brQ N (shV (mD M))) (e : Nat) (he : e = 9) (ho : odOK (mOd M)) {sc : Nat × (Nat → Int32)} {n0 : Nat} (hn0 : n0 ≤ 7) : gW K_Mo_digest sc { frames := 9, locals := 212, cells := 0, slots := 0 } n0 (gXs (some (.long (vG N e (mD M) (mBf M) (mTy M) (mHs M)))) (wHs M (vG N e (mD M) (mBf M) (mTy M) (mHs M)))) 0 0 177 [(0, .ref 0)] [] (cMo M) := by
  refine gW_b D_Mo_digest 100 3 (pc' := 181) (l' := [(0, .ref 0)]) (st' := [.int 9, .ref 0, .ref 0]) (h' := cMo M) (P := True) rfl trivial ?_
  refine gW_st (st' := [.int (nI e), .ref 0, .ref 0]) (by rw [he]; rfl) ?_
  refine gW_callV (n_bestFor M hok.1 ho e (by omega)) lk_Mo_191 [0, 1, 2, 3, 4, 5, 6] (gdec_at D_Mo_digest 103 rfl) (st := [.ref 0]) rfl rfl ⟨rfl, rfl⟩ (Nat.le_of_ble_eq_true rfl) rfl (by decide) rfl (Nat.le_of_ble_eq_true rfl) ⟨Nat.le_of_ble_eq_true rfl, Nat.le_of_ble_eq_true rfl⟩ ⟨Nat.le_of_ble_eq_true rfl, Nat.le_of_ble_eq_true rfl⟩ (gAft_e rfl rfl (st' := [.int (bfI (mD M) e), .ref 0]) (pc' := 184) (cs' := 0) (ss' := 0) rfl rfl rfl rfl (fun od19 st19 sp19 ho19 => ?_))
  refine gW_b D_Mo_digest 104 1 (pc' := 185) (l' := [(0, .ref 0)]) (st' := [.long ((bfI (mD M) e).toInt64), .ref 0]) (h' := cMo (wSt (wOd (wSp M sp19) od19) st19)) (P := True) rfl trivial ?_
  refine gW_callV (n_mix (wSt (wOd (wSp M sp19) od19) st19) ((bfI (mD M) e).toInt64)) lk_Mo_212 [0, 1, 2, 3, 4, 5, 6] (gdec_at D_Mo_digest 105 rfl) (st := []) rfl rfl ⟨rfl, rfl⟩ (Nat.le_of_ble_eq_true rfl) rfl (by decide) rfl (Nat.le_of_ble_eq_true rfl) ⟨Nat.le_of_ble_eq_true rfl, Nat.le_of_ble_eq_true rfl⟩ ⟨Nat.le_of_ble_eq_true rfl, Nat.le_of_ble_eq_true rfl⟩ (gAft_r rfl rfl (h' := cMo (wHs (wSt (wOd (wSp M sp19) od19) st19) (31 * (mHs M) + ((bfI (mD M) e).toInt64)))) (st' := []) (pc' := 188) (cs' := 0) (ss' := 0) rfl rfl rfl rfl rfl ?_)
  exact k_dgH (wHs (wSt (wOd (wSp M sp19) od19) st19) (31 * (mHs M) + ((bfI (mD M) e).toInt64))) h60 hok N hq hk ho19 hn0
theorem k_dgF3 (M : gMo) (h60 : mTy M ≤ 60) (hok : rsOK (mD M)) (N : Nat) (hq : ¬ sum4 (dCu (mD M)) = 0 → vf_n64 (FP.ddiv (FP.i2d (sum4 (dLa (mD M)))) (FP.i2d (sum4 (dCu (mD M)))))) (hk : ¬ Op.cmpValue (FP.dcmp (shV (mD M)) FP.dconst0) .l = 0 → brQ N (shV (mD M))) (d e : Nat) (hd : d = 5) (he : e = 9) (ho : odOK (mOd M)) {sc : Nat × (Nat → Int32)} {n0 : Nat} (hn0 : n0 ≤ 7) : gW K_Mo_digest sc { frames := 9, locals := 212, cells := 0, slots := 0 } n0 (gXs (some (.long (vF3 N d e (mD M) (mBf M) (mTy M) (mHs M)))) (wHs M (vF3 N d e (mD M) (mBf M) (mTy M) (mHs M)))) 0 0 155 [(0, .ref 0), (1, .int 3)] [] (cMo M) := by
  refine gW_b D_Mo_digest 88 2 (pc' := 157) (l' := [(0, .ref 0), (1, .int 3)]) (st' := [.int 3, .int 3]) (h' := cMo M) (P := True) rfl trivial ?_
  refine gW_ic_gt (gdec_at D_Mo_digest 90 rfl) (tgt := 177) rfl (fun cq => absurd cq (by decide)) (fun _ => ?_)
  refine gW_b D_Mo_digest 91 4 (pc' := 164) (l' := [(0, .ref 0), (1, .int 3)]) (st' := [.int 3, .int 5, .ref 0, .ref 0]) (h' := cMo M) (P := True) rfl trivial ?_
  refine gW_st (st' := [.int 3, .int (nI d), .ref 0, .ref 0]) (by rw [hd]; rfl) ?_
  refine gW_callV (n_wouldPass_3 M hok.1 ho d (by omega)) lk_Mo_185 [0, 1, 2, 3, 4, 5, 6] (gdec_at D_Mo_digest 95 rfl) (st := [.ref 0]) rfl rfl ⟨rfl, rfl⟩ (Nat.le_of_ble_eq_true rfl) rfl (by decide) rfl (Nat.le_of_ble_eq_true rfl) ⟨Nat.le_of_ble_eq_true rfl, Nat.le_of_ble_eq_true rfl⟩ ⟨Nat.le_of_ble_eq_true rfl, Nat.le_of_ble_eq_true rfl⟩ (gAft_e rfl rfl (st' := [.int (sum4 (dSw (dyC (mD M) d).1) - sum4 (dSw (mD M))), .ref 0]) (pc' := 167) (cs' := 0) (ss' := 0) rfl rfl rfl rfl (fun od20 st20 sp20 ho20 => ?_))
  refine gW_b D_Mo_digest 96 1 (pc' := 168) (l' := [(0, .ref 0), (1, .int 3)]) (st' := [.long ((sum4 (dSw (dyC (mD M) d).1) - sum4 (dSw (mD M))).toInt64), .ref 0]) (h' := cMo (wSt (wOd (wSp M sp20) od20) st20)) (P := True) rfl trivial ?_
  refine gW_callV (n_mix (wSt (wOd (wSp M sp20) od20) st20) ((sum4 (dSw (dyC (mD M) d).1) - sum4 (dSw (mD M))).toInt64)) lk_Mo_212 [0, 1, 2, 3, 4, 5, 6] (gdec_at D_Mo_digest 97 rfl) (st := []) rfl rfl ⟨rfl, rfl⟩ (Nat.le_of_ble_eq_true rfl) rfl (by decide) rfl (Nat.le_of_ble_eq_true rfl) ⟨Nat.le_of_ble_eq_true rfl, Nat.le_of_ble_eq_true rfl⟩ ⟨Nat.le_of_ble_eq_true rfl, Nat.le_of_ble_eq_true rfl⟩ (gAft_r rfl rfl (h' := cMo (wHs (wSt (wOd (wSp M sp20) od20) st20) (31 * (mHs M) + ((sum4 (dSw (dyC (mD M) d).1) - sum4 (dSw (mD M))).toInt64)))) (st' := []) (pc' := 171) (cs' := 0) (ss' := 0) rfl rfl rfl rfl rfl ?_)
  refine gW_b D_Mo_digest 98 2 (pc' := 155) (l' := [(0, .ref 0), (1, .int 4)]) (st' := []) (h' := cMo (wHs (wSt (wOd (wSp M sp20) od20) st20) (31 * (mHs M) + ((sum4 (dSw (dyC (mD M) d).1) - sum4 (dSw (mD M))).toInt64)))) (P := True) rfl trivial ?_
  refine gW_b D_Mo_digest 88 2 (pc' := 157) (l' := [(0, .ref 0), (1, .int 4)]) (st' := [.int 3, .int 4]) (h' := cMo (wHs (wSt (wOd (wSp M sp20) od20) st20) (31 * (mHs M) + ((sum4 (dSw (dyC (mD M) d).1) - sum4 (dSw (mD M))).toInt64)))) (P := True) rfl trivial ?_
  refine gW_ic_gt (gdec_at D_Mo_digest 90 rfl) (tgt := 177) rfl (fun _ => ?_) (fun cq => absurd (by decide) cq)
  refine gW_l [0] (l' := [(0, .ref 0)]) rfl ?_
  exact k_dgG (wHs (wSt (wOd (wSp M sp20) od20) st20) (31 * (mHs M) + ((sum4 (dSw (dyC (mD M) d).1) - sum4 (dSw (mD M))).toInt64))) h60 hok N hq hk e he ho20 hn0
theorem k_dgF2 (M : gMo) (h60 : mTy M ≤ 60) (hok : rsOK (mD M)) (N : Nat) (hq : ¬ sum4 (dCu (mD M)) = 0 → vf_n64 (FP.ddiv (FP.i2d (sum4 (dLa (mD M)))) (FP.i2d (sum4 (dCu (mD M)))))) (hk : ¬ Op.cmpValue (FP.dcmp (shV (mD M)) FP.dconst0) .l = 0 → brQ N (shV (mD M))) (d e : Nat) (hd : d = 5) (he : e = 9) (ho : odOK (mOd M)) {sc : Nat × (Nat → Int32)} {n0 : Nat} (hn0 : n0 ≤ 7) : gW K_Mo_digest sc { frames := 9, locals := 212, cells := 0, slots := 0 } n0 (gXs (some (.long (vF2 N d e (mD M) (mBf M) (mTy M) (mHs M)))) (wHs M (vF2 N d e (mD M) (mBf M) (mTy M) (mHs M)))) 0 0 155 [(0, .ref 0), (1, .int 2)] [] (cMo M) := by
  refine gW_b D_Mo_digest 88 2 (pc' := 157) (l' := [(0, .ref 0), (1, .int 2)]) (st' := [.int 3, .int 2]) (h' := cMo M) (P := True) rfl trivial ?_
  refine gW_ic_gt (gdec_at D_Mo_digest 90 rfl) (tgt := 177) rfl (fun cq => absurd cq (by decide)) (fun _ => ?_)
  refine gW_b D_Mo_digest 91 4 (pc' := 164) (l' := [(0, .ref 0), (1, .int 2)]) (st' := [.int 2, .int 5, .ref 0, .ref 0]) (h' := cMo M) (P := True) rfl trivial ?_
  refine gW_st (st' := [.int 2, .int (nI d), .ref 0, .ref 0]) (by rw [hd]; rfl) ?_
  refine gW_callV (n_wouldPass_2 M hok.1 ho d (by omega)) lk_Mo_185 [0, 1, 2, 3, 4, 5, 6] (gdec_at D_Mo_digest 95 rfl) (st := [.ref 0]) rfl rfl ⟨rfl, rfl⟩ (Nat.le_of_ble_eq_true rfl) rfl (by decide) rfl (Nat.le_of_ble_eq_true rfl) ⟨Nat.le_of_ble_eq_true rfl, Nat.le_of_ble_eq_true rfl⟩ ⟨Nat.le_of_ble_eq_true rfl, Nat.le_of_ble_eq_true rfl⟩ (gAft_e rfl rfl (st' := [.int (dLd (dyC (mD M) d).1 - dLd (mD M)), .ref 0]) (pc' := 167) (cs' := 0) (ss' := 0) rfl rfl rfl rfl (fun od21 st21 sp21 ho21 => ?_))
  refine gW_b D_Mo_digest 96 1 (pc' := 168) (l' := [(0, .ref 0), (1, .int 2)]) (st' := [.long ((dLd (dyC (mD M) d).1 - dLd (mD M)).toInt64), .ref 0]) (h' := cMo (wSt (wOd (wSp M sp21) od21) st21)) (P := True) rfl trivial ?_
  refine gW_callV (n_mix (wSt (wOd (wSp M sp21) od21) st21) ((dLd (dyC (mD M) d).1 - dLd (mD M)).toInt64)) lk_Mo_212 [0, 1, 2, 3, 4, 5, 6] (gdec_at D_Mo_digest 97 rfl) (st := []) rfl rfl ⟨rfl, rfl⟩ (Nat.le_of_ble_eq_true rfl) rfl (by decide) rfl (Nat.le_of_ble_eq_true rfl) ⟨Nat.le_of_ble_eq_true rfl, Nat.le_of_ble_eq_true rfl⟩ ⟨Nat.le_of_ble_eq_true rfl, Nat.le_of_ble_eq_true rfl⟩ (gAft_r rfl rfl (h' := cMo (wHs (wSt (wOd (wSp M sp21) od21) st21) (31 * (mHs M) + ((dLd (dyC (mD M) d).1 - dLd (mD M)).toInt64)))) (st' := []) (pc' := 171) (cs' := 0) (ss' := 0) rfl rfl rfl rfl rfl ?_)
  refine gW_b D_Mo_digest 98 2 (pc' := 155) (l' := [(0, .ref 0), (1, .int 3)]) (st' := []) (h' := cMo (wHs (wSt (wOd (wSp M sp21) od21) st21) (31 * (mHs M) + ((dLd (dyC (mD M) d).1 - dLd (mD M)).toInt64)))) (P := True) rfl trivial ?_
  exact k_dgF3 (wHs (wSt (wOd (wSp M sp21) od21) st21) (31 * (mHs M) + ((dLd (dyC (mD M) d).1 - dLd (mD M)).toInt64))) h60 hok N hq hk d e hd he ho21 hn0
theorem k_dgF1 (M : gMo) (h60 : mTy M ≤ 60) (hok : rsOK (mD M)) (N : Nat) (hq : ¬ sum4 (dCu (mD M)) = 0 → vf_n64 (FP.ddiv (FP.i2d (sum4 (dLa (mD M)))) (FP.i2d (sum4 (dCu (mD M)))))) (hk : ¬ Op.cmpValue (FP.dcmp (shV (mD M)) FP.dconst0) .l = 0 → brQ N (shV (mD M))) (d e : Nat) (hd : d = 5) (he : e = 9) (ho : odOK (mOd M)) {sc : Nat × (Nat → Int32)} {n0 : Nat} (hn0 : n0 ≤ 7) : gW K_Mo_digest sc { frames := 9, locals := 212, cells := 0, slots := 0 } n0 (gXs (some (.long (vF1 N d e (mD M) (mBf M) (mTy M) (mHs M)))) (wHs M (vF1 N d e (mD M) (mBf M) (mTy M) (mHs M)))) 0 0 155 [(0, .ref 0), (1, .int 1)] [] (cMo M) := by
  refine gW_b D_Mo_digest 88 2 (pc' := 157) (l' := [(0, .ref 0), (1, .int 1)]) (st' := [.int 3, .int 1]) (h' := cMo M) (P := True) rfl trivial ?_
  refine gW_ic_gt (gdec_at D_Mo_digest 90 rfl) (tgt := 177) rfl (fun cq => absurd cq (by decide)) (fun _ => ?_)
  refine gW_b D_Mo_digest 91 4 (pc' := 164) (l' := [(0, .ref 0), (1, .int 1)]) (st' := [.int 1, .int 5, .ref 0, .ref 0]) (h' := cMo M) (P := True) rfl trivial ?_
  refine gW_st (st' := [.int 1, .int (nI d), .ref 0, .ref 0]) (by rw [hd]; rfl) ?_
  refine gW_callV (n_wouldPass_1 M hok.1 ho d (by omega)) lk_Mo_185 [0, 1, 2, 3, 4, 5, 6] (gdec_at D_Mo_digest 95 rfl) (st := [.ref 0]) rfl rfl ⟨rfl, rfl⟩ (Nat.le_of_ble_eq_true rfl) rfl (by decide) rfl (Nat.le_of_ble_eq_true rfl) ⟨Nat.le_of_ble_eq_true rfl, Nat.le_of_ble_eq_true rfl⟩ ⟨Nat.le_of_ble_eq_true rfl, Nat.le_of_ble_eq_true rfl⟩ (gAft_e rfl rfl (st' := [.int (dDn (dyC (mD M) d).1 - dDn (mD M)), .ref 0]) (pc' := 167) (cs' := 0) (ss' := 0) rfl rfl rfl rfl (fun od22 st22 sp22 ho22 => ?_))
  refine gW_b D_Mo_digest 96 1 (pc' := 168) (l' := [(0, .ref 0), (1, .int 1)]) (st' := [.long ((dDn (dyC (mD M) d).1 - dDn (mD M)).toInt64), .ref 0]) (h' := cMo (wSt (wOd (wSp M sp22) od22) st22)) (P := True) rfl trivial ?_
  refine gW_callV (n_mix (wSt (wOd (wSp M sp22) od22) st22) ((dDn (dyC (mD M) d).1 - dDn (mD M)).toInt64)) lk_Mo_212 [0, 1, 2, 3, 4, 5, 6] (gdec_at D_Mo_digest 97 rfl) (st := []) rfl rfl ⟨rfl, rfl⟩ (Nat.le_of_ble_eq_true rfl) rfl (by decide) rfl (Nat.le_of_ble_eq_true rfl) ⟨Nat.le_of_ble_eq_true rfl, Nat.le_of_ble_eq_true rfl⟩ ⟨Nat.le_of_ble_eq_true rfl, Nat.le_of_ble_eq_true rfl⟩ (gAft_r rfl rfl (h' := cMo (wHs (wSt (wOd (wSp M sp22) od22) st22) (31 * (mHs M) + ((dDn (dyC (mD M) d).1 - dDn (mD M)).toInt64)))) (st' := []) (pc' := 171) (cs' := 0) (ss' := 0) rfl rfl rfl rfl rfl ?_)
  refine gW_b D_Mo_digest 98 2 (pc' := 155) (l' := [(0, .ref 0), (1, .int 2)]) (st' := []) (h' := cMo (wHs (wSt (wOd (wSp M sp22) od22) st22) (31 * (mHs M) + ((dDn (dyC (mD M) d).1 - dDn (mD M)).toInt64)))) (P := True) rfl trivial ?_
  exact k_dgF2 (wHs (wSt (wOd (wSp M sp22) od22) st22) (31 * (mHs M) + ((dDn (dyC (mD M) d).1 - dDn (mD M)).toInt64))) h60 hok N hq hk d e hd he ho22 hn0
theorem k_dgF0 (M : gMo) (h60 : mTy M ≤ 60) (hok : rsOK (mD M)) (N : Nat) (hq : ¬ sum4 (dCu (mD M)) = 0 → vf_n64 (FP.ddiv (FP.i2d (sum4 (dLa (mD M)))) (FP.i2d (sum4 (dCu (mD M)))))) (hk : ¬ Op.cmpValue (FP.dcmp (shV (mD M)) FP.dconst0) .l = 0 → brQ N (shV (mD M))) (d e : Nat) (hd : d = 5) (he : e = 9) (ho : odOK (mOd M)) {sc : Nat × (Nat → Int32)} {n0 : Nat} (hn0 : n0 ≤ 7) : gW K_Mo_digest sc { frames := 9, locals := 212, cells := 0, slots := 0 } n0 (gXs (some (.long (vF0 N d e (mD M) (mBf M) (mTy M) (mHs M)))) (wHs M (vF0 N d e (mD M) (mBf M) (mTy M) (mHs M)))) 0 0 155 [(0, .ref 0), (1, .int 0)] [] (cMo M) := by
  refine gW_b D_Mo_digest 88 2 (pc' := 157) (l' := [(0, .ref 0), (1, .int 0)]) (st' := [.int 3, .int 0]) (h' := cMo M) (P := True) rfl trivial ?_
  refine gW_ic_gt (gdec_at D_Mo_digest 90 rfl) (tgt := 177) rfl (fun cq => absurd cq (by decide)) (fun _ => ?_)
  refine gW_b D_Mo_digest 91 4 (pc' := 164) (l' := [(0, .ref 0), (1, .int 0)]) (st' := [.int 0, .int 5, .ref 0, .ref 0]) (h' := cMo M) (P := True) rfl trivial ?_
  refine gW_st (st' := [.int 0, .int (nI d), .ref 0, .ref 0]) (by rw [hd]; rfl) ?_
  refine gW_callV (n_wouldPass_0 M hok.1 ho d (by omega)) lk_Mo_185 [0, 1, 2, 3, 4, 5, 6] (gdec_at D_Mo_digest 95 rfl) (st := [.ref 0]) rfl rfl ⟨rfl, rfl⟩ (Nat.le_of_ble_eq_true rfl) rfl (by decide) rfl (Nat.le_of_ble_eq_true rfl) ⟨Nat.le_of_ble_eq_true rfl, Nat.le_of_ble_eq_true rfl⟩ ⟨Nat.le_of_ble_eq_true rfl, Nat.le_of_ble_eq_true rfl⟩ (gAft_e rfl rfl (st' := [.int ((dyC (mD M) d).2), .ref 0]) (pc' := 167) (cs' := 0) (ss' := 0) rfl rfl rfl rfl (fun od23 st23 sp23 ho23 => ?_))
  refine gW_b D_Mo_digest 96 1 (pc' := 168) (l' := [(0, .ref 0), (1, .int 0)]) (st' := [.long (((dyC (mD M) d).2).toInt64), .ref 0]) (h' := cMo (wSt (wOd (wSp M sp23) od23) st23)) (P := True) rfl trivial ?_
  refine gW_callV (n_mix (wSt (wOd (wSp M sp23) od23) st23) (((dyC (mD M) d).2).toInt64)) lk_Mo_212 [0, 1, 2, 3, 4, 5, 6] (gdec_at D_Mo_digest 97 rfl) (st := []) rfl rfl ⟨rfl, rfl⟩ (Nat.le_of_ble_eq_true rfl) rfl (by decide) rfl (Nat.le_of_ble_eq_true rfl) ⟨Nat.le_of_ble_eq_true rfl, Nat.le_of_ble_eq_true rfl⟩ ⟨Nat.le_of_ble_eq_true rfl, Nat.le_of_ble_eq_true rfl⟩ (gAft_r rfl rfl (h' := cMo (wHs (wSt (wOd (wSp M sp23) od23) st23) (31 * (mHs M) + (((dyC (mD M) d).2).toInt64)))) (st' := []) (pc' := 171) (cs' := 0) (ss' := 0) rfl rfl rfl rfl rfl ?_)
  refine gW_b D_Mo_digest 98 2 (pc' := 155) (l' := [(0, .ref 0), (1, .int 1)]) (st' := []) (h' := cMo (wHs (wSt (wOd (wSp M sp23) od23) st23) (31 * (mHs M) + (((dyC (mD M) d).2).toInt64)))) (P := True) rfl trivial ?_
  exact k_dgF1 (wHs (wSt (wOd (wSp M sp23) od23) st23) (31 * (mHs M) + (((dyC (mD M) d).2).toInt64))) h60 hok N hq hk d e hd he ho23 hn0
theorem k_dgF (M : gMo) (h60 : mTy M ≤ 60) (hok : rsOK (mD M)) (N : Nat) (hq : ¬ sum4 (dCu (mD M)) = 0 → vf_n64 (FP.ddiv (FP.i2d (sum4 (dLa (mD M)))) (FP.i2d (sum4 (dCu (mD M)))))) (hk : ¬ Op.cmpValue (FP.dcmp (shV (mD M)) FP.dconst0) .l = 0 → brQ N (shV (mD M))) (d e : Nat) (hd : d = 5) (he : e = 9) (ho : odOK (mOd M)) {sc : Nat × (Nat → Int32)} {n0 : Nat} (hn0 : n0 ≤ 7) : gW K_Mo_digest sc { frames := 9, locals := 212, cells := 0, slots := 0 } n0 (gXs (some (.long (vF N d e (mD M) (mBf M) (mTy M) (mHs M)))) (wHs M (vF N d e (mD M) (mBf M) (mTy M) (mHs M)))) 0 0 142 [(0, .ref 0)] [] (cMo M) := by
  obtain ⟨-, -, h5, h51, h52, -⟩ := id hok.1
  refine gW_b D_Mo_digest 80 3 (pc' := 146) (l' := [(0, .ref 0)]) (st' := [.int 100, .ref 0, .ref 0]) (h' := cMo M) (P := True) rfl trivial ?_
  refine gW_st (st' := [.int (nI 100), .ref 0, .ref 0]) rfl ?_
  refine gW_callV (n_takenFor M (tnx (dSt (mD M) 5)) 100 h5 h51 h52 (by omega) (by omega)) lk_Mo_98 [0, 1, 2, 3, 4, 5, 6] (gdec_at D_Mo_digest 83 rfl) (st := [.ref 0]) rfl rfl ⟨rfl, rfl⟩ (Nat.le_of_ble_eq_true rfl) rfl (by decide) rfl (Nat.le_of_ble_eq_true rfl) ⟨Nat.le_of_ble_eq_true rfl, Nat.le_of_ble_eq_true rfl⟩ ⟨Nat.le_of_ble_eq_true rfl, Nat.le_of_ble_eq_true rfl⟩ (gAft_r rfl rfl (h' := cMo M) (st' := [.int (nI (tkN (tnx (dSt (mD M) 5)) 100)), .ref 0]) (pc' := 149) (cs' := 0) (ss' := 0) rfl rfl rfl rfl rfl ?_)
  refine gW_b D_Mo_digest 84 1 (pc' := 150) (l' := [(0, .ref 0)]) (st' := [.long ((nI (tkN (tnx (dSt (mD M) 5)) 100)).toInt64), .ref 0]) (h' := cMo M) (P := True) rfl trivial ?_
  refine gW_callV (n_mix M ((nI (tkN (tnx (dSt (mD M) 5)) 100)).toInt64)) lk_Mo_212 [0, 1, 2, 3, 4, 5, 6] (gdec_at D_Mo_digest 85 rfl) (st := []) rfl rfl ⟨rfl, rfl⟩ (Nat.le_of_ble_eq_true rfl) rfl (by decide) rfl (Nat.le_of_ble_eq_true rfl) ⟨Nat.le_of_ble_eq_true rfl, Nat.le_of_ble_eq_true rfl⟩ ⟨Nat.le_of_ble_eq_true rfl, Nat.le_of_ble_eq_true rfl⟩ (gAft_r rfl rfl (h' := cMo (wHs M (31 * (mHs M) + ((nI (tkN (tnx (dSt (mD M) 5)) 100)).toInt64)))) (st' := []) (pc' := 153) (cs' := 0) (ss' := 0) rfl rfl rfl rfl rfl ?_)
  refine gW_b D_Mo_digest 86 2 (pc' := 155) (l' := [(0, .ref 0), (1, .int 0)]) (st' := []) (h' := cMo (wHs M (31 * (mHs M) + ((nI (tkN (tnx (dSt (mD M) 5)) 100)).toInt64)))) (P := True) rfl trivial ?_
  exact k_dgF0 (wHs M (31 * (mHs M) + ((nI (tkN (tnx (dSt (mD M) 5)) 100)).toInt64))) h60 hok N hq hk d e hd he ho hn0
theorem l_ton (M : gMo) (hs : dSz (mD M) ≤ 10) (t : Nat) (ht : t < 4) (h : Int64) {sc : Nat × (Nat → Int32)} {n0 : Nat} {E : gO → gH → Prop} (kk : gW K_Mo_digest sc { frames := 9, locals := 212, cells := 0, slots := 0 } n0 E 0 0 126 [(0, .ref 0), (1, .int (nI t))] [] (cMo (wHs M (hfo (tvR (mD M) t) h 7)))) : ∀ (n k : Nat), k + n = 7 → gW K_Mo_digest sc { frames := 9, locals := 212, cells := 0, slots := 0 } n0 E 0 0 103 [(0, .ref 0), (1, .int (nI t)), (2, .int (nI k))] [] (cMo (wHs M (hfo (tvR (mD M) t) h k))) := by
  intro n
  induction n with
  | zero =>
    intro k hi
    obtain rfl : 7 = k := by omega
    refine gW_b D_Mo_digest 60 2 (pc' := 106) (l' := [(0, .ref 0), (1, .int (nI t)), (2, .int (nI 7))]) (st' := [.int 6, .int (nI 7)]) (h' := cMo (wHs M (hfo (tvR (mD M) t) h 7))) (P := True) rfl trivial ?_
    refine gW_ic_gt (gdec_at D_Mo_digest 62 rfl) (tgt := 126) rfl (fun _ => ?_) (fun cq => absurd ((glt (gk 6) (rfl : nI 7 = nI 7) (by omega) (by omega)).mpr (by omega)) cq)
    refine gW_l [0, 1] (l' := [(0, .ref 0), (1, .int (nI t))]) rfl ?_
    exact kk
  | succ n ih =>
    intro k hi
    refine gW_b D_Mo_digest 60 2 (pc' := 106) (l' := [(0, .ref 0), (1, .int (nI t)), (2, .int (nI k))]) (st' := [.int 6, .int (nI k)]) (h' := cMo (wHs M (hfo (tvR (mD M) t) h k))) (P := True) rfl trivial ?_
    refine gW_ic_gt (gdec_at D_Mo_digest 62 rfl) (tgt := 126) rfl (fun cq => absurd cq (mt (glt (gk 6) (rfl : nI k = nI k) (by omega) (by omega)).mp (by omega))) (fun _ => ?_)
    refine gW_b D_Mo_digest 63 4 (pc' := 113) (l' := [(0, .ref 0), (1, .int (nI t)), (2, .int (nI k))]) (st' := [.int (nI k), .int (nI t), .ref 0, .ref 0]) (h' := cMo (wHs M (hfo (tvR (mD M) t) h k))) (P := True) rfl trivial ?_
    refine gW_callV (n_toldToneC (wHs M (hfo (tvR (mD M) t) h k)) hs t k ht (by omega)) lk_Mo_163 [0, 1, 2, 3, 4, 5, 6] (gdec_at D_Mo_digest 67 rfl) (st := [.ref 0]) rfl rfl ⟨rfl, rfl⟩ (Nat.le_of_ble_eq_true rfl) rfl (by decide) rfl (Nat.le_of_ble_eq_true rfl) ⟨Nat.le_of_ble_eq_true rfl, Nat.le_of_ble_eq_true rfl⟩ ⟨Nat.le_of_ble_eq_true rfl, Nat.le_of_ble_eq_true rfl⟩ (gAft_r rfl rfl (h' := cMo (wHs M (hfo (tvR (mD M) t) h k))) (st' := [.int (tvR (mD M) t k), .ref 0]) (pc' := 116) (cs' := 0) (ss' := 0) rfl rfl rfl rfl rfl ?_)
    refine gW_b D_Mo_digest 68 1 (pc' := 117) (l' := [(0, .ref 0), (1, .int (nI t)), (2, .int (nI k))]) (st' := [.long ((tvR (mD M) t k).toInt64), .ref 0]) (h' := cMo (wHs M (hfo (tvR (mD M) t) h k))) (P := True) rfl trivial ?_
    refine gW_callV (n_mix (wHs M (hfo (tvR (mD M) t) h k)) ((tvR (mD M) t k).toInt64)) lk_Mo_212 [0, 1, 2, 3, 4, 5, 6] (gdec_at D_Mo_digest 69 rfl) (st := []) rfl rfl ⟨rfl, rfl⟩ (Nat.le_of_ble_eq_true rfl) rfl (by decide) rfl (Nat.le_of_ble_eq_true rfl) ⟨Nat.le_of_ble_eq_true rfl, Nat.le_of_ble_eq_true rfl⟩ ⟨Nat.le_of_ble_eq_true rfl, Nat.le_of_ble_eq_true rfl⟩ (gAft_r rfl rfl (h' := cMo (wHs M (31 * (hfo (tvR (mD M) t) h k) + ((tvR (mD M) t k).toInt64)))) (st' := []) (pc' := 120) (cs' := 0) (ss' := 0) rfl rfl rfl rfl rfl ?_)
    refine gW_b D_Mo_digest 70 2 (pc' := 103) (l' := [(0, .ref 0), (1, .int (nI t)), (2, .int ((nI k) + 1))]) (st' := []) (h' := cMo (wHs M (31 * (hfo (tvR (mD M) t) h k) + ((tvR (mD M) t k).toInt64)))) (P := True) rfl trivial ?_
    rw [show ((nI k) + 1 : Int32) = nI (k + 1) from (gadd (rfl : nI k = nI k) (gk 1))]
    exact ih (k + 1) (by omega)
theorem l_ton2 (M : gMo) (hok : rsOK (mD M)) (i : Nat) (hi : i < 4) (h : Int64) {sc : Nat × (Nat → Int32)} {n0 : Nat} {E : gO → gH → Prop} (kk : gW K_Mo_digest sc { frames := 9, locals := 212, cells := 0, slots := 0 } n0 E 0 0 96 [(0, .ref 0), (1, .int (nI (i + 1)))] [] (cMo (wHs M (31 * h + (lkI (mD M) i).toInt64)))) : gW K_Mo_digest sc { frames := 9, locals := 212, cells := 0, slots := 0 } n0 E 0 0 126 [(0, .ref 0), (1, .int (nI i))] [] (cMo (wHs M h)) := by
  refine gW_b D_Mo_digest 72 3 (pc' := 129) (l' := [(0, .ref 0), (1, .int (nI i))]) (st' := [.int (nI i), .ref 0, .ref 0]) (h' := cMo (wHs M h)) (P := True) rfl trivial ?_
  refine gW_callV (n_lacks (wHs M h) hok i (by omega)) lk_Mo_176 [0, 1, 2, 3, 4, 5, 6] (gdec_at D_Mo_digest 75 rfl) (st := [.ref 0]) rfl rfl ⟨rfl, rfl⟩ (Nat.le_of_ble_eq_true rfl) rfl (by decide) rfl (Nat.le_of_ble_eq_true rfl) ⟨Nat.le_of_ble_eq_true rfl, Nat.le_of_ble_eq_true rfl⟩ ⟨Nat.le_of_ble_eq_true rfl, Nat.le_of_ble_eq_true rfl⟩ (gAft_r rfl rfl (h' := cMo (wHs M h)) (st' := [.int (lkI (mD M) i), .ref 0]) (pc' := 132) (cs' := 0) (ss' := 0) rfl rfl rfl rfl rfl ?_)
  refine gW_b D_Mo_digest 76 1 (pc' := 133) (l' := [(0, .ref 0), (1, .int (nI i))]) (st' := [.long ((lkI (mD M) i).toInt64), .ref 0]) (h' := cMo (wHs M h)) (P := True) rfl trivial ?_
  refine gW_callV (n_mix (wHs M h) ((lkI (mD M) i).toInt64)) lk_Mo_212 [0, 1, 2, 3, 4, 5, 6] (gdec_at D_Mo_digest 77 rfl) (st := []) rfl rfl ⟨rfl, rfl⟩ (Nat.le_of_ble_eq_true rfl) rfl (by decide) rfl (Nat.le_of_ble_eq_true rfl) ⟨Nat.le_of_ble_eq_true rfl, Nat.le_of_ble_eq_true rfl⟩ ⟨Nat.le_of_ble_eq_true rfl, Nat.le_of_ble_eq_true rfl⟩ (gAft_r rfl rfl (h' := cMo (wHs M (31 * h + ((lkI (mD M) i).toInt64)))) (st' := []) (pc' := 136) (cs' := 0) (ss' := 0) rfl rfl rfl rfl rfl ?_)
  refine gW_b D_Mo_digest 78 2 (pc' := 96) (l' := [(0, .ref 0), (1, .int ((nI i) + 1))]) (st' := []) (h' := cMo (wHs M (31 * h + ((lkI (mD M) i).toInt64)))) (P := True) rfl trivial ?_
  rw [show ((nI i) + 1 : Int32) = nI (i + 1) from (gadd (rfl : nI i = nI i) (gk 1))]
  exact kk
theorem l_dgE (M : gMo) (h : Int64) (hok : rsOK (mD M)) {sc : Nat × (Nat → Int32)} {n0 : Nat} {E : gO → gH → Prop} (kk : gW K_Mo_digest sc { frames := 9, locals := 212, cells := 0, slots := 0 } n0 E 0 0 142 [(0, .ref 0), (1, .int (nI 4))] [] (cMo (wHs M (hTs (mD M) h 4)))) : ∀ (n i : Nat), i + n = 4 → gW K_Mo_digest sc { frames := 9, locals := 212, cells := 0, slots := 0 } n0 E 0 0 96 [(0, .ref 0), (1, .int (nI i))] [] (cMo (wHs M (hTs (mD M) h i))) := by
  intro n
  induction n with
  | zero =>
    intro i hi
    obtain rfl : 4 = i := by omega
    refine gW_b D_Mo_digest 55 2 (pc' := 98) (l' := [(0, .ref 0), (1, .int (nI 4))]) (st' := [.int 4, .int (nI 4)]) (h' := cMo (wHs M (hTs (mD M) h 4))) (P := True) rfl trivial ?_
    refine gW_ic_ge (gdec_at D_Mo_digest 57 rfl) (tgt := 142) rfl (fun _ => ?_) (fun cq => absurd ((gle (gk 4) (rfl : nI 4 = nI 4) (by omega) (by omega)).mpr (by omega)) cq)
    exact kk
  | succ n ih =>
    intro i hi
    refine gW_b D_Mo_digest 55 2 (pc' := 98) (l' := [(0, .ref 0), (1, .int (nI i))]) (st' := [.int 4, .int (nI i)]) (h' := cMo (wHs M (hTs (mD M) h i))) (P := True) rfl trivial ?_
    refine gW_ic_ge (gdec_at D_Mo_digest 57 rfl) (tgt := 142) rfl (fun cq => absurd cq (mt (gle (gk 4) (rfl : nI i = nI i) (by omega) (by omega)).mp (by omega))) (fun _ => ?_)
    have hs := hok.1.1
    refine gW_b D_Mo_digest 58 2 (pc' := 103) (l' := [(0, .ref 0), (1, .int (nI i)), (2, .int 0)]) (st' := []) (h' := cMo (wHs M (hTs (mD M) h i))) (P := True) rfl trivial ?_
    refine l_ton M hs i (by omega) (hTs (mD M) h i) ?_ 7 0 rfl
    refine l_ton2 M hok i (by omega) _ ?_
    rw [show 31 * hfo (tvR (mD M) i) (hTs (mD M) h i) 7 + (lkI (mD M) i).toInt64 = hTs (mD M) h (i + 1) from rfl]
    exact ih (i + 1) (by omega)
theorem k_dgE (M : gMo) (h60 : mTy M ≤ 60) (hok : rsOK (mD M)) (N : Nat) (hq : ¬ sum4 (dCu (mD M)) = 0 → vf_n64 (FP.ddiv (FP.i2d (sum4 (dLa (mD M)))) (FP.i2d (sum4 (dCu (mD M)))))) (hk : ¬ Op.cmpValue (FP.dcmp (shV (mD M)) FP.dconst0) .l = 0 → brQ N (shV (mD M))) (d e : Nat) (hd : d = 5) (he : e = 9) (ho : odOK (mOd M)) {sc : Nat × (Nat → Int32)} {n0 : Nat} (hn0 : n0 ≤ 7) : gW K_Mo_digest sc { frames := 9, locals := 212, cells := 0, slots := 0 } n0 (gXs (some (.long (vE N d e (mD M) (mBf M) (mTy M) (mHs M)))) (wHs M (vE N d e (mD M) (mBf M) (mTy M) (mHs M)))) 0 0 94 [(0, .ref 0)] [] (cMo M) := by
  refine gW_b D_Mo_digest 53 2 (pc' := 96) (l' := [(0, .ref 0), (1, .int 0)]) (st' := []) (h' := cMo M) (P := True) rfl trivial ?_
  refine l_dgE M (mHs M) hok ?_ 4 0 rfl
  refine gW_l [0] (l' := [(0, .ref 0)]) rfl ?_
  exact k_dgF (wHs M (hTs (mD M) (mHs M) 4)) h60 hok N hq hk d e hd he ho hn0
theorem k_dgD (M : gMo) (h60 : mTy M ≤ 60) (hok : rsOK (mD M)) (N : Nat) (hq : ¬ sum4 (dCu (mD M)) = 0 → vf_n64 (FP.ddiv (FP.i2d (sum4 (dLa (mD M)))) (FP.i2d (sum4 (dCu (mD M)))))) (hk : ¬ Op.cmpValue (FP.dcmp (shV (mD M)) FP.dconst0) .l = 0 → brQ N (shV (mD M))) (d e : Nat) (hd : d = 5) (he : e = 9) (ho : odOK (mOd M)) {sc : Nat × (Nat → Int32)} {n0 : Nat} (hn0 : n0 ≤ 7) : gW K_Mo_digest sc { frames := 9, locals := 212, cells := 0, slots := 0 } n0 (gXs (some (.long (vD N d e (mD M) (mBf M) (mTy M) (mHs M)))) (wHs M (vD N d e (mD M) (mBf M) (mTy M) (mHs M)))) 0 0 90 [(0, .ref 0)] [] (cMo M) := by
  refine gW_b D_Mo_digest 51 1 (pc' := 91) (l' := [(0, .ref 0)]) (st' := [.ref 0]) (h' := cMo M) (P := True) rfl trivial ?_
  refine gW_callV (n_mixSections M hok.1 ho) lk_Mo_218 [0, 1, 2, 3, 4, 5, 6] (gdec_at D_Mo_digest 52 rfl) (st := []) rfl rfl ⟨rfl, rfl⟩ (Nat.le_of_ble_eq_true rfl) rfl (by decide) rfl (Nat.le_of_ble_eq_true rfl) ⟨Nat.le_of_ble_eq_true rfl, Nat.le_of_ble_eq_true rfl⟩ ⟨Nat.le_of_ble_eq_true rfl, Nat.le_of_ble_eq_true rfl⟩ (gAft_e rfl rfl (st' := []) (pc' := 94) (cs' := 0) (ss' := 0) rfl rfl rfl rfl (fun od24 st24 sp24 ho24 => ?_))
  exact k_dgE (wHs (wSt (wOd (wSp M sp24) od24) st24) (mxS (mD M) (mHs M) (dSz (mD M)))) h60 hok N hq hk d e hd he ho24 hn0
theorem l_dgC (M : gMo) (h : Int64) {sc : Nat × (Nat → Int32)} {n0 : Nat} {E : gO → gH → Prop} (kk : gW K_Mo_digest sc { frames := 9, locals := 212, cells := 0, slots := 0 } n0 E 0 0 90 [(0, .ref 0), (1, .int (nI 24))] [] (cMo (wHs M (hfo (dTr (mD M)) h 24)))) : ∀ (n i : Nat), i + n = 24 → gW K_Mo_digest sc { frames := 9, locals := 212, cells := 0, slots := 0 } n0 E 0 0 65 [(0, .ref 0), (1, .int (nI i))] [] (cMo (wHs M (hfo (dTr (mD M)) h i))) := by
  intro n
  induction n with
  | zero =>
    intro i hi
    obtain rfl : 24 = i := by omega
    refine gW_b D_Mo_digest 37 2 (pc' := 68) (l' := [(0, .ref 0), (1, .int (nI 24))]) (st' := [.int 24, .int (nI 24)]) (h' := cMo (wHs M (hfo (dTr (mD M)) h 24))) (P := True) rfl trivial ?_
    refine gW_ic_ge (gdec_at D_Mo_digest 39 rfl) (tgt := 90) rfl (fun _ => ?_) (fun cq => absurd ((gle (gk 24) (rfl : nI 24 = nI 24) (by omega) (by omega)).mpr (by omega)) cq)
    exact kk
  | succ n ih =>
    intro i hi
    refine gW_b D_Mo_digest 37 2 (pc' := 68) (l' := [(0, .ref 0), (1, .int (nI i))]) (st' := [.int 24, .int (nI i)]) (h' := cMo (wHs M (hfo (dTr (mD M)) h i))) (P := True) rfl trivial ?_
    refine gW_ic_ge (gdec_at D_Mo_digest 39 rfl) (tgt := 90) rfl (fun cq => absurd cq (mt (gle (gk 24) (rfl : nI i = nI i) (by omega) (by omega)).mp (by omega))) (fun _ => ?_)
    refine gW_b D_Mo_digest 40 7 (pc' := 80) (l' := [(0, .ref 0), (1, .int (nI i))]) (st' := [.int (zD (mD M) (4 + (nI i)).toNatClampNeg), .ref 0]) (h' := cMo (wHs M (hfo (dTr (mD M)) h i))) (P := vp_in (4 + (nI i)) 103 ∧ True) rfl ⟨(gvin (gadd (gk 4) (rfl : nI i = nI i)) (by omega) (by omega)), trivial⟩ ?_
    rw [show (4 + (nI i)).toNatClampNeg = (4 + i) from gclp (gadd (gk 4) (rfl : nI i = nI i)) (by omega)]
    rw [show (zD (mD M) (4 + i) : Int32) = (dTr (mD M)) (i) from zr_tq (mD M) i (by omega)]
    refine gW_b D_Mo_digest 47 1 (pc' := 81) (l' := [(0, .ref 0), (1, .int (nI i))]) (st' := [.long (((dTr (mD M)) (i)).toInt64), .ref 0]) (h' := cMo (wHs M (hfo (dTr (mD M)) h i))) (P := True) rfl trivial ?_
    refine gW_callV (n_mix (wHs M (hfo (dTr (mD M)) h i)) (((dTr (mD M)) (i)).toInt64)) lk_Mo_212 [0, 1, 2, 3, 4, 5, 6] (gdec_at D_Mo_digest 48 rfl) (st := []) rfl rfl ⟨rfl, rfl⟩ (Nat.le_of_ble_eq_true rfl) rfl (by decide) rfl (Nat.le_of_ble_eq_true rfl) ⟨Nat.le_of_ble_eq_true rfl, Nat.le_of_ble_eq_true rfl⟩ ⟨Nat.le_of_ble_eq_true rfl, Nat.le_of_ble_eq_true rfl⟩ (gAft_r rfl rfl (h' := cMo (wHs M (31 * (hfo (dTr (mD M)) h i) + (((dTr (mD M)) (i)).toInt64)))) (st' := []) (pc' := 84) (cs' := 0) (ss' := 0) rfl rfl rfl rfl rfl ?_)
    refine gW_b D_Mo_digest 49 2 (pc' := 65) (l' := [(0, .ref 0), (1, .int ((nI i) + 1))]) (st' := []) (h' := cMo (wHs M (31 * (hfo (dTr (mD M)) h i) + (((dTr (mD M)) (i)).toInt64)))) (P := True) rfl trivial ?_
    rw [show ((nI i) + 1 : Int32) = nI (i + 1) from (gadd (rfl : nI i = nI i) (gk 1))]
    exact ih (i + 1) (by omega)
theorem k_dgC (M : gMo) (h60 : mTy M ≤ 60) (hok : rsOK (mD M)) (N : Nat) (hq : ¬ sum4 (dCu (mD M)) = 0 → vf_n64 (FP.ddiv (FP.i2d (sum4 (dLa (mD M)))) (FP.i2d (sum4 (dCu (mD M)))))) (hk : ¬ Op.cmpValue (FP.dcmp (shV (mD M)) FP.dconst0) .l = 0 → brQ N (shV (mD M))) (d e : Nat) (hd : d = 5) (he : e = 9) (ho : odOK (mOd M)) {sc : Nat × (Nat → Int32)} {n0 : Nat} (hn0 : n0 ≤ 7) : gW K_Mo_digest sc { frames := 9, locals := 212, cells := 0, slots := 0 } n0 (gXs (some (.long (vC N d e (mD M) (mBf M) (mTy M) (mHs M)))) (wHs M (vC N d e (mD M) (mBf M) (mTy M) (mHs M)))) 0 0 63 [(0, .ref 0)] [] (cMo M) := by
  refine gW_b D_Mo_digest 35 2 (pc' := 65) (l' := [(0, .ref 0), (1, .int 0)]) (st' := []) (h' := cMo M) (P := True) rfl trivial ?_
  refine l_dgC M (mHs M) ?_ 24 0 rfl
  refine gW_l [0] (l' := [(0, .ref 0)]) rfl ?_
  exact k_dgD (wHs M (hfo (dTr (mD M)) (mHs M) 24)) h60 hok N hq hk d e hd he ho hn0
theorem l_dgB (M : gMo) (h : Int64) {sc : Nat × (Nat → Int32)} {n0 : Nat} {E : gO → gH → Prop} (kk : gW K_Mo_digest sc { frames := 9, locals := 212, cells := 0, slots := 0 } n0 E 0 0 63 [(0, .ref 0), (1, .int (nI 6))] [] (cMo (wHs M (hfo (dSt (mD M)) h 6)))) : ∀ (n i : Nat), i + n = 6 → gW K_Mo_digest sc { frames := 9, locals := 212, cells := 0, slots := 0 } n0 E 0 0 38 [(0, .ref 0), (1, .int (nI i))] [] (cMo (wHs M (hfo (dSt (mD M)) h i))) := by
  intro n
  induction n with
  | zero =>
    intro i hi
    obtain rfl : 6 = i := by omega
    refine gW_b D_Mo_digest 21 2 (pc' := 40) (l' := [(0, .ref 0), (1, .int (nI 6))]) (st' := [.int 5, .int (nI 6)]) (h' := cMo (wHs M (hfo (dSt (mD M)) h 6))) (P := True) rfl trivial ?_
    refine gW_ic_gt (gdec_at D_Mo_digest 23 rfl) (tgt := 63) rfl (fun _ => ?_) (fun cq => absurd ((glt (gk 5) (rfl : nI 6 = nI 6) (by omega) (by omega)).mpr (by omega)) cq)
    exact kk
  | succ n ih =>
    intro i hi
    refine gW_b D_Mo_digest 21 2 (pc' := 40) (l' := [(0, .ref 0), (1, .int (nI i))]) (st' := [.int 5, .int (nI i)]) (h' := cMo (wHs M (hfo (dSt (mD M)) h i))) (P := True) rfl trivial ?_
    refine gW_ic_gt (gdec_at D_Mo_digest 23 rfl) (tgt := 63) rfl (fun cq => absurd cq (mt (glt (gk 5) (rfl : nI i = nI i) (by omega) (by omega)).mp (by omega))) (fun _ => ?_)
    refine gW_b D_Mo_digest 24 7 (pc' := 53) (l' := [(0, .ref 0), (1, .int (nI i))]) (st' := [.int (zD (mD M) (28 + (nI i)).toNatClampNeg), .ref 0]) (h' := cMo (wHs M (hfo (dSt (mD M)) h i))) (P := vp_in (28 + (nI i)) 103 ∧ True) rfl ⟨(gvin (gadd (gk 28) (rfl : nI i = nI i)) (by omega) (by omega)), trivial⟩ ?_
    rw [show (28 + (nI i)).toNatClampNeg = (28 + i) from gclp (gadd (gk 28) (rfl : nI i = nI i)) (by omega)]
    rw [show (zD (mD M) (28 + i) : Int32) = (dSt (mD M)) (i) from zr_st (mD M) i (by omega)]
    refine gW_b D_Mo_digest 31 1 (pc' := 54) (l' := [(0, .ref 0), (1, .int (nI i))]) (st' := [.long (((dSt (mD M)) (i)).toInt64), .ref 0]) (h' := cMo (wHs M (hfo (dSt (mD M)) h i))) (P := True) rfl trivial ?_
    refine gW_callV (n_mix (wHs M (hfo (dSt (mD M)) h i)) (((dSt (mD M)) (i)).toInt64)) lk_Mo_212 [0, 1, 2, 3, 4, 5, 6] (gdec_at D_Mo_digest 32 rfl) (st := []) rfl rfl ⟨rfl, rfl⟩ (Nat.le_of_ble_eq_true rfl) rfl (by decide) rfl (Nat.le_of_ble_eq_true rfl) ⟨Nat.le_of_ble_eq_true rfl, Nat.le_of_ble_eq_true rfl⟩ ⟨Nat.le_of_ble_eq_true rfl, Nat.le_of_ble_eq_true rfl⟩ (gAft_r rfl rfl (h' := cMo (wHs M (31 * (hfo (dSt (mD M)) h i) + (((dSt (mD M)) (i)).toInt64)))) (st' := []) (pc' := 57) (cs' := 0) (ss' := 0) rfl rfl rfl rfl rfl ?_)
    refine gW_b D_Mo_digest 33 2 (pc' := 38) (l' := [(0, .ref 0), (1, .int ((nI i) + 1))]) (st' := []) (h' := cMo (wHs M (31 * (hfo (dSt (mD M)) h i) + (((dSt (mD M)) (i)).toInt64)))) (P := True) rfl trivial ?_
    rw [show ((nI i) + 1 : Int32) = nI (i + 1) from (gadd (rfl : nI i = nI i) (gk 1))]
    exact ih (i + 1) (by omega)
theorem k_dgB (M : gMo) (h60 : mTy M ≤ 60) (hok : rsOK (mD M)) (N : Nat) (hq : ¬ sum4 (dCu (mD M)) = 0 → vf_n64 (FP.ddiv (FP.i2d (sum4 (dLa (mD M)))) (FP.i2d (sum4 (dCu (mD M)))))) (hk : ¬ Op.cmpValue (FP.dcmp (shV (mD M)) FP.dconst0) .l = 0 → brQ N (shV (mD M))) (d e : Nat) (hd : d = 5) (he : e = 9) (ho : odOK (mOd M)) {sc : Nat × (Nat → Int32)} {n0 : Nat} (hn0 : n0 ≤ 7) : gW K_Mo_digest sc { frames := 9, locals := 212, cells := 0, slots := 0 } n0 (gXs (some (.long (vB N d e (mD M) (mBf M) (mTy M) (mHs M)))) (wHs M (vB N d e (mD M) (mBf M) (mTy M) (mHs M)))) 0 0 36 [(0, .ref 0)] [] (cMo M) := by
  refine gW_b D_Mo_digest 19 2 (pc' := 38) (l' := [(0, .ref 0), (1, .int 0)]) (st' := []) (h' := cMo M) (P := True) rfl trivial ?_
  refine l_dgB M (mHs M) ?_ 6 0 rfl
  refine gW_l [0] (l' := [(0, .ref 0)]) rfl ?_
  exact k_dgC (wHs M (hfo (dSt (mD M)) (mHs M) 6)) h60 hok N hq hk d e hd he ho hn0
theorem k_lpA (M : gMo) (h : Int64) (hn : mN M ≤ 6) {sc : Nat × (Nat → Int32)} {n0 : Nat} {E : gO → gH → Prop} (kk : gW K_Mo_digest sc { frames := 9, locals := 212, cells := 0, slots := 0 } n0 E 0 0 36 [(0, .ref 0), (1, .int (nI 10))] [] (cMo (wHs M (hfo (cvR (mD M) (mN M)) h 10)))) : ∀ (n i : Nat), i + n = 10 → gW K_Mo_digest sc { frames := 9, locals := 212, cells := 0, slots := 0 } n0 E 0 0 14 [(0, .ref 0), (1, .int (nI i))] [] (cMo (wHs M (hfo (cvR (mD M) (mN M)) h i))) := by
  intro n
  induction n with
  | zero =>
    intro i hi
    obtain rfl : 10 = i := by omega
    refine gW_b D_Mo_digest 8 2 (pc' := 17) (l' := [(0, .ref 0), (1, .int (nI 10))]) (st' := [.int 9, .int (nI 10)]) (h' := cMo (wHs M (hfo (cvR (mD M) (mN M)) h 10))) (P := True) rfl trivial ?_
    refine gW_ic_gt (gdec_at D_Mo_digest 10 rfl) (tgt := 36) rfl (fun _ => ?_) (fun cq => absurd ((glt (gk 9) (rfl : nI 10 = nI 10) (by omega) (by omega)).mpr (by omega)) cq)
    exact kk
  | succ n ih =>
    intro i hi
    refine gW_b D_Mo_digest 8 2 (pc' := 17) (l' := [(0, .ref 0), (1, .int (nI i))]) (st' := [.int 9, .int (nI i)]) (h' := cMo (wHs M (hfo (cvR (mD M) (mN M)) h i))) (P := True) rfl trivial ?_
    refine gW_ic_gt (gdec_at D_Mo_digest 10 rfl) (tgt := 36) rfl (fun cq => absurd cq (mt (glt (gk 9) (rfl : nI i = nI i) (by omega) (by omega)).mp (by omega))) (fun _ => ?_)
    refine gW_b D_Mo_digest 11 3 (pc' := 23) (l' := [(0, .ref 0), (1, .int (nI i))]) (st' := [.int (nI i), .ref 0, .ref 0]) (h' := cMo (wHs M (hfo (cvR (mD M) (mN M)) h i))) (P := True) rfl trivial ?_
    refine gW_callV (n_countedC (wHs M (hfo (cvR (mD M) (mN M)) h i)) i (by omega)) lk_Mo_173 [0, 1, 2, 3, 4, 5, 6] (gdec_at D_Mo_digest 14 rfl) (st := [.ref 0]) rfl rfl ⟨rfl, rfl⟩ (Nat.le_of_ble_eq_true rfl) rfl (by decide) rfl (Nat.le_of_ble_eq_true rfl) ⟨Nat.le_of_ble_eq_true rfl, Nat.le_of_ble_eq_true rfl⟩ ⟨Nat.le_of_ble_eq_true rfl, Nat.le_of_ble_eq_true rfl⟩ (gAft_r rfl rfl (h' := cMo (wHs M (hfo (cvR (mD M) (mN M)) h i))) (st' := [.int (cvR (mD M) (mN M) i), .ref 0]) (pc' := 26) (cs' := 0) (ss' := 0) rfl rfl rfl rfl rfl ?_)
    refine gW_b D_Mo_digest 15 1 (pc' := 27) (l' := [(0, .ref 0), (1, .int (nI i))]) (st' := [.long ((cvR (mD M) (mN M) i).toInt64), .ref 0]) (h' := cMo (wHs M (hfo (cvR (mD M) (mN M)) h i))) (P := True) rfl trivial ?_
    refine gW_callV (n_mix (wHs M (hfo (cvR (mD M) (mN M)) h i)) ((cvR (mD M) (mN M) i).toInt64)) lk_Mo_212 [0, 1, 2, 3, 4, 5, 6] (gdec_at D_Mo_digest 16 rfl) (st := []) rfl rfl ⟨rfl, rfl⟩ (Nat.le_of_ble_eq_true rfl) rfl (by decide) rfl (Nat.le_of_ble_eq_true rfl) ⟨Nat.le_of_ble_eq_true rfl, Nat.le_of_ble_eq_true rfl⟩ ⟨Nat.le_of_ble_eq_true rfl, Nat.le_of_ble_eq_true rfl⟩ (gAft_r rfl rfl (h' := cMo (wHs M (31 * (hfo (cvR (mD M) (mN M)) h i) + ((cvR (mD M) (mN M) i).toInt64)))) (st' := []) (pc' := 30) (cs' := 0) (ss' := 0) rfl rfl rfl rfl rfl ?_)
    refine gW_b D_Mo_digest 17 2 (pc' := 14) (l' := [(0, .ref 0), (1, .int ((nI i) + 1))]) (st' := []) (h' := cMo (wHs M (31 * (hfo (cvR (mD M) (mN M)) h i) + ((cvR (mD M) (mN M) i).toInt64)))) (P := True) rfl trivial ?_
    rw [show ((nI i) + 1 : Int32) = nI (i + 1) from (gadd (rfl : nI i = nI i) (gk 1))]
    exact ih (i + 1) (by omega)
theorem n_digest (M : gMo) (hn : mN M ≤ 6) (h60 : mTy M ≤ 60) (hok : rsOK (mD M)) (N : Nat) (hq : ¬ sum4 (dCu (mD M)) = 0 → vf_n64 (FP.ddiv (FP.i2d (sum4 (dLa (mD M)))) (FP.i2d (sum4 (dCu (mD M)))))) (hk : ¬ Op.cmpValue (FP.dcmp (shV (mD M)) FP.dconst0) .l = 0 → brQ N (shV (mD M))) (ho : odOK (mOd M)) (d e : Nat) (hd : d = 5) (he : e = 9) (h : Int64) (hh : h = 3023)  : gM K_Mo_digest { frames := 9, locals := 212, cells := 0, slots := 0 } [.ref 0] (cMo M) (gXs (some (.long (vA N d e (mD M) (mN M) (mBf M) (mTy M) h))) (wHs (wTh M 0) (vA N d e (mD M) (mN M) (mBf M) (mTy M) h))) := by
  refine gM_of rfl rfl (Nat.le_of_ble_eq_true rfl) (fun sc => ?_)
  refine gW_b D_Mo_digest 0 6 (pc' := 12) (l' := [(0, .ref 0)]) (st' := []) (h' := cMo (wHs (wTh M 0) 3023)) (P := True) rfl trivial ?_
  show gW K_Mo_digest sc { frames := 9, locals := 212, cells := 0, slots := 0 } _ _ 0 0 12 [(0, .ref 0)] [] (cMo (wHs (wTh M 0) 3023))
  rw [← hh]
  refine gW_b D_Mo_digest 6 2 (pc' := 14) (l' := [(0, .ref 0), (1, .int 0)]) (st' := []) (h' := cMo (wHs (wTh M 0) h)) (P := True) rfl trivial ?_
  refine k_lpA (wTh M 0) h hn ?_ 10 0 rfl
  refine gW_l [0] (l' := [(0, .ref 0)]) rfl ?_
  exact k_dgB (wHs (wTh M 0) (hfo (cvR (mD M) (mN M)) h 10)) h60 hok N hq hk d e hd he ho (n0 := 7) (Nat.le_refl 7)
