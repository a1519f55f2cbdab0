/-! GoldSheets$Dome. Printed by wip/whole/meths3.py -/
/-- trays, sections' cells, how many, numbers so far, settings, sheets, cut, laid, swept, day, done, late, late days, sorted -/
abbrev gDom : Type := (Nat → Int32) × (Nat → Int32) × Nat × Int32 × (Nat → Int32) × (Nat → Int32) × (Nat → Int32) × (Nat → Int32) × (Nat → Int32) × Int32 × Int32 × Int32 × Int32 × Int32
abbrev dTr (D : gDom) : Nat → Int32 := D.1
abbrev dG (D : gDom) : Nat → Int32 := D.2.1
abbrev dSz (D : gDom) : Nat := D.2.2.1
abbrev dC (D : gDom) : Int32 := D.2.2.2.1
abbrev dSt (D : gDom) : Nat → Int32 := D.2.2.2.2.1
abbrev dSh (D : gDom) : Nat → Int32 := D.2.2.2.2.2.1
abbrev dCu (D : gDom) : Nat → Int32 := D.2.2.2.2.2.2.1
abbrev dLa (D : gDom) : Nat → Int32 := D.2.2.2.2.2.2.2.1
abbrev dSw (D : gDom) : Nat → Int32 := D.2.2.2.2.2.2.2.2.1
abbrev dDy (D : gDom) : Int32 := D.2.2.2.2.2.2.2.2.2.1
abbrev dDn (D : gDom) : Int32 := D.2.2.2.2.2.2.2.2.2.2.1
abbrev dLt (D : gDom) : Int32 := D.2.2.2.2.2.2.2.2.2.2.2.1
abbrev dLd (D : gDom) : Int32 := D.2.2.2.2.2.2.2.2.2.2.2.2.1
abbrev dSo (D : gDom) : Int32 := D.2.2.2.2.2.2.2.2.2.2.2.2.2
abbrev cDo (b : Nat) (D : gDom) : gH := [cO 2 [.ref (b + 1), .ref (b + 3), .ref (b + 5), .ref (b + 6), .ref (b + 7), .ref (b + 8), .ref (b + 9), .int (dDy D), .int (dDn D), .int (dLt D), .int (dLd D), .int (dSo D)], cO 0 [.ref (b + 2)], cI 24 (dTr D), cO 1 [.ref (b + 4), .int (nI (dSz D)), .int (dC D)], cI 50 (dG D), cI 6 (dSt D), cI 4 (dSh D), cI 4 (dCu D), cI 4 (dLa D), cI 4 (dSw D)]
/-- how many are taken so that x come in; q: setting 5 -/
def tkn (q x : Int32) : Int32 := if q - 1 < 1 then x else x + (x - 1) / (q - 1)
theorem gdiv1 {x : Int32} (h : ¬ x < 1) : ¬ x = 0 := fun q => h (by rw [q]; decide)
theorem gdiv0 {x : Int32} (h : ¬ x ≤ 0) : ¬ x = 0 := fun q => h (by rw [q]; decide)

theorem m_takenFor (D : gDom) (x : Int32) : gM K_Do_takenFor { frames := 0, locals := 0, cells := 0, slots := 0 } [.ref 0, .int x] (cDo 0 D) (gD (.inl (some (.int (tkn (dSt D 5) x)))) (cDo 0 D)) := by
  refine gM_of rfl rfl (Nat.le_of_ble_eq_true rfl) (fun sc => ?_)
  refine gW_b D_Do_takenFor 0 9 (pc' := 11) (l' := [(0, .ref 0), (1, .int x), (2, .int (((dSt D) 5) - 1))]) (st' := [.int 1, .int (((dSt D) 5) - 1)]) (h' := cDo 0 D) (P := vp_in 5 6 ∧ True) rfl ⟨(gvl 5 6 (by omega) (by omega)), trivial⟩ ?_
  refine gW_ic_ge (gdec_at D_Do_takenFor 9 rfl) (tgt := 18) rfl (fun c => ?_) (fun c => ?_)
  · skip
    have hd := gdiv1 (Int32.not_lt.mpr c)
    refine gW_b D_Do_takenFor 12 7 (pc' := 25) (l' := [(0, .ref 0), (1, .int x), (2, .int (((dSt D) 5) - 1))]) (st' := [.int (x + ((x - 1) / (((dSt D) 5) - 1)))]) (h' := cDo 0 D) (P := ¬ (((dSt D) 5) - 1) = 0 ∧ True) rfl ⟨(by assumption), trivial⟩ ?_
    rw [show x + (x - 1) / (dSt D 5 - 1) = tkn (dSt D 5) x from (if_neg (Int32.not_lt.mpr c)).symm]
    exact gW_iret (gdec_at D_Do_takenFor 19 rfl) rfl rfl (Nat.le_of_ble_eq_true rfl) ⟨rfl, rfl⟩ (Nat.le_of_ble_eq_true rfl) (Nat.le_of_ble_eq_true rfl)
  · skip
    refine gW_b D_Do_takenFor 10 2 (pc' := 25) (l' := [(0, .ref 0), (1, .int x), (2, .int (((dSt D) 5) - 1))]) (st' := [.int x]) (h' := cDo 0 D) (P := True) rfl trivial ?_
    rw [show tkn (dSt D 5) x = x from if_pos (Int32.not_le.mp c)]
    exact gW_iret (gdec_at D_Do_takenFor 19 rfl) rfl rfl (Nat.le_of_ble_eq_true rfl) ⟨rfl, rfl⟩ (Nat.le_of_ble_eq_true rfl) (Nat.le_of_ble_eq_true rfl)
def cutI (D : gDom) (a : Nat) : Int32 := if frI (dTr D) a (dSt D 1) < dSt D 0 then frI (dTr D) a (dSt D 1) else dSt D 0
def cutD (D : gDom) (t a : Nat) : gDom := (upd (dTr D) (a * 4 + t) (dTr D (a * 4 + t) + cutI D a), dG D, dSz D, dC D, dSt D, upd (dSh D) t (dSh D t + (-1)), upd (dCu D) t (dCu D t + dSt D 0), dLa D, upd (dSw D) t (dSw D t + (dSt D 0 - cutI D a)), dDy D, dDn D, dLt D, dLd D, dSo D)

theorem m_cutSheet (D : gDom) (t a : Nat) (ht : t < 4) (ha : a < 6) : gM K_Do_cutSheet { frames := 3, locals := 68, cells := 0, slots := 0 } [.ref 0, .int (nI t), .int (nI a)] (cDo 0 D) (gD (.inl (some (.int (cutI D a)))) (cDo 0 (cutD D t a))) := by
  refine gM_of rfl rfl (Nat.le_of_ble_eq_true rfl) (fun sc => ?_)
  refine gW_b D_Do_cutSheet 0 13 (pc' := 19) (l' := [(0, .ref 0), (1, .int (nI t)), (2, .int (nI a)), (3, .int ((dSt D) 0))]) (st' := [.int ((dSt D) 1), .int (nI a), .ref 1, .int ((dSt D) 0)]) (h' := cDo 0 D) (P := vp_in 0 6 ∧ vp_in 1 6 ∧ True) rfl ⟨(gvl 0 6 (by omega) (by omega)), (gvl 1 6 (by omega) (by omega)), trivial⟩ ?_
  refine gW_callV (m_freeIn (dTr D) a ((dSt D) 1) (by omega)) lk_Do_71 [1, 2] (gdec_at D_Do_cutSheet 13 rfl) (st := [.int ((dSt D) 0)]) rfl rfl ⟨rfl, rfl⟩ (Nat.le_of_ble_eq_true rfl) rfl (by decide) rfl (Nat.le_of_ble_eq_true rfl) ⟨Nat.le_of_ble_eq_true rfl, Nat.le_of_ble_eq_true rfl⟩ ⟨Nat.le_of_ble_eq_true rfl, Nat.le_of_ble_eq_true rfl⟩ (gAft_r rfl rfl (h' := cDo 0 D) (st' := [.int (frI (dTr D) a ((dSt D) 1)), .int ((dSt D) 0)]) (pc' := 22) (cs' := 0) (ss' := 0) rfl rfl rfl rfl rfl ?_)
  refine gW_min (gmem 361 (by decide +kernel)) (gdec_at D_Do_cutSheet 14 rfl) (Nat.le_of_ble_eq_true rfl) (Nat.le_of_ble_eq_true rfl) (Nat.le_of_ble_eq_true rfl) (Nat.le_of_ble_eq_true rfl) ?_
  rw [show (if frI (dTr D) a ((dSt D) 1) < (dSt D) 0 then frI (dTr D) a ((dSt D) 1) else (dSt D) 0 : Int32) = cutI D a from rfl]
  refine gW_b D_Do_cutSheet 15 6 (pc' := 35) (l' := [(0, .ref 0), (1, .int (nI t)), (2, .int (nI a)), (3, .int ((dSt D) 0)), (4, .int (cutI D a))]) (st' := [.int (cutI D a), .int (nI t), .int (nI a), .ref 1]) (h' := cDo 0 D) (P := True) rfl trivial ?_
  refine gW_callV (m_change (dTr D) a t (cutI D a) (by omega) (by omega)) lk_Do_80 [1, 2] (gdec_at D_Do_cutSheet 21 rfl) (st := []) rfl rfl ⟨rfl, rfl⟩ (Nat.le_of_ble_eq_true rfl) rfl (by decide) rfl (Nat.le_of_ble_eq_true rfl) ⟨Nat.le_of_ble_eq_true rfl, Nat.le_of_ble_eq_true rfl⟩ ⟨Nat.le_of_ble_eq_true rfl, Nat.le_of_ble_eq_true rfl⟩ (gAft_r rfl rfl (h' := cDo 0 (upd (dTr D) (a * 4 + t) (((dTr D) (a * 4 + t)) + (cutI D a)), dG D, dSz D, dC D, dSt D, dSh D, dCu D, dLa D, dSw D, dDy D, dDn D, dLt D, dLd D, dSo D)) (st' := []) (pc' := 38) (cs' := 0) (ss' := 0) rfl rfl rfl rfl rfl ?_)
  refine gW_b D_Do_cutSheet 22 4 (pc' := 44) (l' := [(0, .ref 0), (1, .int (nI t)), (2, .int (nI a)), (3, .int ((dSt D) 0)), (4, .int (cutI D a))]) (st' := [.int (-1), .int (nI t), .ref 6]) (h' := cDo 0 (upd (dTr D) (a * 4 + t) (((dTr D) (a * 4 + t)) + (cutI D a)), dG D, dSz D, dC D, dSt D, dSh D, dCu D, dLa D, dSw D, dDy D, dDn D, dLt D, dLd D, dSo D)) (P := True) rfl trivial ?_
  refine gW_callS (m_addAt 4 t (dSh D) (-1) (by omega) (by omega)) lk_Do_84 [6] (gdec_at D_Do_cutSheet 26 rfl) (st := []) rfl rfl ⟨rfl, rfl⟩ (Nat.le_of_ble_eq_true rfl) (Nat.le_of_ble_eq_true rfl) ⟨Nat.le_of_ble_eq_true rfl, Nat.le_of_ble_eq_true rfl⟩ ⟨Nat.le_of_ble_eq_true rfl, Nat.le_of_ble_eq_true rfl⟩ (gAft_r rfl rfl (h' := cDo 0 (upd (dTr D) (a * 4 + t) (((dTr D) (a * 4 + t)) + (cutI D a)), dG D, dSz D, dC D, dSt D, upd (dSh D) t (((dSh D) t) + (-1)), dCu D, dLa D, dSw D, dDy D, dDn D, dLt D, dLd D, dSo D)) (st' := []) (pc' := 47) (cs' := 0) (ss' := 0) rfl rfl rfl rfl rfl ?_)
  refine gW_b D_Do_cutSheet 27 4 (pc' := 53) (l' := [(0, .ref 0), (1, .int (nI t)), (2, .int (nI a)), (3, .int ((dSt D) 0)), (4, .int (cutI D a))]) (st' := [.int ((dSt D) 0), .int (nI t), .ref 7]) (h' := cDo 0 (upd (dTr D) (a * 4 + t) (((dTr D) (a * 4 + t)) + (cutI D a)), dG D, dSz D, dC D, dSt D, upd (dSh D) t (((dSh D) t) + (-1)), dCu D, dLa D, dSw D, dDy D, dDn D, dLt D, dLd D, dSo D)) (P := True) rfl trivial ?_
  refine gW_callS (m_addAt 4 t (dCu D) ((dSt D) 0) (by omega) (by omega)) lk_Do_84 [7] (gdec_at D_Do_cutSheet 31 rfl) (st := []) rfl rfl ⟨rfl, rfl⟩ (Nat.le_of_ble_eq_true rfl) (Nat.le_of_ble_eq_true rfl) ⟨Nat.le_of_ble_eq_true rfl, Nat.le_of_ble_eq_true rfl⟩ ⟨Nat.le_of_ble_eq_true rfl, Nat.le_of_ble_eq_true rfl⟩ (gAft_r rfl rfl (h' := cDo 0 (upd (dTr D) (a * 4 + t) (((dTr D) (a * 4 + t)) + (cutI D a)), dG D, dSz D, dC D, dSt D, upd (dSh D) t (((dSh D) t) + (-1)), upd (dCu D) t (((dCu D) t) + ((dSt D) 0)), dLa D, dSw D, dDy D, dDn D, dLt D, dLd D, dSo D)) (st' := []) (pc' := 56) (cs' := 0) (ss' := 0) rfl rfl rfl rfl rfl ?_)
  refine gW_b D_Do_cutSheet 32 6 (pc' := 65) (l' := [(0, .ref 0), (1, .int (nI t)), (2, .int (nI a)), (3, .int ((dSt D) 0)), (4, .int (cutI D a))]) (st' := [.int (((dSt D) 0) - (cutI D a)), .int (nI t), .ref 9]) (h' := cDo 0 (upd (dTr D) (a * 4 + t) (((dTr D) (a * 4 + t)) + (cutI D a)), dG D, dSz D, dC D, dSt D, upd (dSh D) t (((dSh D) t) + (-1)), upd (dCu D) t (((dCu D) t) + ((dSt D) 0)), dLa D, dSw D, dDy D, dDn D, dLt D, dLd D, dSo D)) (P := True) rfl trivial ?_
  refine gW_callS (m_addAt 4 t (dSw D) (((dSt D) 0) - (cutI D a)) (by omega) (by omega)) lk_Do_84 [9] (gdec_at D_Do_cutSheet 38 rfl) (st := []) rfl rfl ⟨rfl, rfl⟩ (Nat.le_of_ble_eq_true rfl) (Nat.le_of_ble_eq_true rfl) ⟨Nat.le_of_ble_eq_true rfl, Nat.le_of_ble_eq_true rfl⟩ ⟨Nat.le_of_ble_eq_true rfl, Nat.le_of_ble_eq_true rfl⟩ (gAft_r rfl rfl (h' := cDo 0 (upd (dTr D) (a * 4 + t) (((dTr D) (a * 4 + t)) + (cutI D a)), dG D, dSz D, dC D, dSt D, upd (dSh D) t (((dSh D) t) + (-1)), upd (dCu D) t (((dCu D) t) + ((dSt D) 0)), dLa D, upd (dSw D) t (((dSw D) t) + (((dSt D) 0) - (cutI D a))), dDy D, dDn D, dLt D, dLd D, dSo D)) (st' := []) (pc' := 68) (cs' := 0) (ss' := 0) rfl rfl rfl rfl rfl ?_)
  refine gW_b D_Do_cutSheet 39 1 (pc' := 70) (l' := [(0, .ref 0), (1, .int (nI t)), (2, .int (nI a)), (3, .int ((dSt D) 0)), (4, .int (cutI D a))]) (st' := [.int (cutI D a)]) (h' := cDo 0 (upd (dTr D) (a * 4 + t) (((dTr D) (a * 4 + t)) + (cutI D a)), dG D, dSz D, dC D, dSt D, upd (dSh D) t (((dSh D) t) + (-1)), upd (dCu D) t (((dCu D) t) + ((dSt D) 0)), dLa D, upd (dSw D) t (((dSw D) t) + (((dSt D) 0) - (cutI D a))), dDy D, dDn D, dLt D, dLd D, dSo D)) (P := True) rfl trivial ?_
  exact gW_iret (gdec_at D_Do_cutSheet 40 rfl) rfl rfl (Nat.le_of_ble_eq_true rfl) ⟨rfl, rfl⟩ (Nat.le_of_ble_eq_true rfl) (Nat.le_of_ble_eq_true rfl)
def tipS (a b : Nat) (r : Int32) (x : (Nat → Int32) × Int32) (t : Nat) : (Nat → Int32) × Int32 := (pourF x.1 a b t (pmI x.1 a t (frI x.1 b r)), x.2 + pmI x.1 a t (frI x.1 b r))
def tipR (a b : Nat) (r : Int32) (f : Nat → Int32) : Nat → (Nat → Int32) × Int32
  | 0 => (f, 0)
  | t + 1 => tipS a b r (tipR a b r f t) t
def setTr (D : gDom) (f : Nat → Int32) : gDom := (f, D.2)
def tipD (D : gDom) (a b : Nat) : gDom := setTr D (tipR a b (dSt D 1) (dTr D) 4).1
theorem l_tipTray (D : gDom) (a b : Nat) (ha : a < 6) (hb : b < 6) {sc : Nat × (Nat → Int32)} {n0 : Nat} {E : gO → gH → Prop} (kk : gW K_Do_tipTray sc { frames := 3, locals := 68, cells := 0, slots := 0 } n0 E 0 0 45 [(0, .ref 0), (1, .int (nI a)), (2, .int (nI b)), (3, .int ((tipR a b (dSt D 1) (dTr D) 4).2)), (4, .int (nI 4))] [] (cDo 0 ((tipR a b (dSt D 1) (dTr D) 4).1, dG D, dSz D, dC D, dSt D, dSh D, dCu D, dLa D, dSw D, dDy D, dDn D, dLt D, dLd D, dSo D))) : ∀ (n i : Nat), i + n = 4 → gW K_Do_tipTray sc { frames := 3, locals := 68, cells := 0, slots := 0 } n0 E 0 0 5 [(0, .ref 0), (1, .int (nI a)), (2, .int (nI b)), (3, .int ((tipR a b (dSt D 1) (dTr D) i).2)), (4, .int (nI i))] [] (cDo 0 ((tipR a b (dSt D 1) (dTr D) i).1, dG D, dSz D, dC D, dSt D, dSh D, dCu D, dLa D, dSw D, dDy D, dDn D, dLt D, dLd D, dSo D)) := by
  intro n
  induction n with
  | zero =>
    intro i hi
    obtain rfl : 4 = i := by omega
    refine gW_b D_Do_tipTray 4 2 (pc' := 8) (l' := [(0, .ref 0), (1, .int (nI a)), (2, .int (nI b)), (3, .int ((tipR a b (dSt D 1) (dTr D) 4).2)), (4, .int (nI 4))]) (st' := [.int 4, .int (nI 4)]) (h' := cDo 0 ((tipR a b (dSt D 1) (dTr D) 4).1, dG D, dSz D, dC D, dSt D, dSh D, dCu D, dLa D, dSw D, dDy D, dDn D, dLt D, dLd D, dSo D)) (P := True) rfl trivial ?_
    refine gW_ic_ge (gdec_at D_Do_tipTray 6 rfl) (tgt := 45) rfl (fun _ => ?_) (fun cq => absurd ((gle (gk 4) (rfl : nI 4 = nI 4) (by omega) (by omega)).mpr (by omega)) cq)
    exact kk
  | succ n ih =>
    intro i hi
    refine gW_b D_Do_tipTray 4 2 (pc' := 8) (l' := [(0, .ref 0), (1, .int (nI a)), (2, .int (nI b)), (3, .int ((tipR a b (dSt D 1) (dTr D) i).2)), (4, .int (nI i))]) (st' := [.int 4, .int (nI i)]) (h' := cDo 0 ((tipR a b (dSt D 1) (dTr D) i).1, dG D, dSz D, dC D, dSt D, dSh D, dCu D, dLa D, dSw D, dDy D, dDn D, dLt D, dLd D, dSo D)) (P := True) rfl trivial ?_
    refine gW_ic_ge (gdec_at D_Do_tipTray 6 rfl) (tgt := 45) rfl (fun cq => absurd cq (mt (gle (gk 4) (rfl : nI i = nI i) (by omega) (by omega)).mp (by omega))) (fun _ => ?_)
    refine gW_b D_Do_tipTray 7 13 (pc' := 31) (l' := [(0, .ref 0), (1, .int (nI a)), (2, .int (nI b)), (3, .int ((tipR a b (dSt D 1) (dTr D) i).2)), (4, .int (nI i))]) (st' := [.int ((dSt D) 1), .int (nI b), .ref 1, .int (nI i), .int (nI b), .int (nI a), .ref 1, .int ((tipR a b (dSt D 1) (dTr D) i).2)]) (h' := cDo 0 ((tipR a b (dSt D 1) (dTr D) i).1, dG D, dSz D, dC D, dSt D, dSh D, dCu D, dLa D, dSw D, dDy D, dDn D, dLt D, dLd D, dSo D)) (P := vp_in 1 6 ∧ True) rfl ⟨(gvl 1 6 (by omega) (by omega)), trivial⟩ ?_
    refine gW_callV (m_freeIn ((tipR a b (dSt D 1) (dTr D) i).1) b ((dSt D) 1) (by omega)) lk_Do_71 [1, 2] (gdec_at D_Do_tipTray 20 rfl) (st := [.int (nI i), .int (nI b), .int (nI a), .ref 1, .int ((tipR a b (dSt D 1) (dTr D) i).2)]) rfl rfl ⟨rfl, rfl⟩ (Nat.le_of_ble_eq_true rfl) rfl (by decide) rfl (Nat.le_of_ble_eq_true rfl) ⟨Nat.le_of_ble_eq_true rfl, Nat.le_of_ble_eq_true rfl⟩ ⟨Nat.le_of_ble_eq_true rfl, Nat.le_of_ble_eq_true rfl⟩ (gAft_r rfl rfl (h' := cDo 0 ((tipR a b (dSt D 1) (dTr D) i).1, dG D, dSz D, dC D, dSt D, dSh D, dCu D, dLa D, dSw D, dDy D, dDn D, dLt D, dLd D, dSo D)) (st' := [.int (frI ((tipR a b (dSt D 1) (dTr D) i).1) b ((dSt D) 1)), .int (nI i), .int (nI b), .int (nI a), .ref 1, .int ((tipR a b (dSt D 1) (dTr D) i).2)]) (pc' := 34) (cs' := 0) (ss' := 0) rfl rfl rfl rfl rfl ?_)
    refine gW_callV (m_pour ((tipR a b (dSt D 1) (dTr D) i).1) a b i (frI ((tipR a b (dSt D 1) (dTr D) i).1) b ((dSt D) 1)) (by omega) (by omega) (by omega)) lk_Do_88 [1, 2] (gdec_at D_Do_tipTray 21 rfl) (st := [.int ((tipR a b (dSt D 1) (dTr D) i).2)]) rfl rfl ⟨rfl, rfl⟩ (Nat.le_of_ble_eq_true rfl) rfl (by decide) rfl (Nat.le_of_ble_eq_true rfl) ⟨Nat.le_of_ble_eq_true rfl, Nat.le_of_ble_eq_true rfl⟩ ⟨Nat.le_of_ble_eq_true rfl, Nat.le_of_ble_eq_true rfl⟩ (gAft_r rfl rfl (h' := cDo 0 (pourF ((tipR a b (dSt D 1) (dTr D) i).1) a b i (pmI ((tipR a b (dSt D 1) (dTr D) i).1) a i (frI ((tipR a b (dSt D 1) (dTr D) i).1) b ((dSt D) 1))), dG D, dSz D, dC D, dSt D, dSh D, dCu D, dLa D, dSw D, dDy D, dDn D, dLt D, dLd D, dSo D)) (st' := [.int (pmI ((tipR a b (dSt D 1) (dTr D) i).1) a i (frI ((tipR a b (dSt D 1) (dTr D) i).1) b ((dSt D) 1))), .int ((tipR a b (dSt D 1) (dTr D) i).2)]) (pc' := 37) (cs' := 0) (ss' := 0) rfl rfl rfl rfl rfl ?_)
    refine gW_b D_Do_tipTray 22 4 (pc' := 5) (l' := [(0, .ref 0), (1, .int (nI a)), (2, .int (nI b)), (3, .int (((tipR a b (dSt D 1) (dTr D) i).2) + (pmI ((tipR a b (dSt D 1) (dTr D) i).1) a i (frI ((tipR a b (dSt D 1) (dTr D) i).1) b ((dSt D) 1))))), (4, .int ((nI i) + 1))]) (st' := []) (h' := cDo 0 (pourF ((tipR a b (dSt D 1) (dTr D) i).1) a b i (pmI ((tipR a b (dSt D 1) (dTr D) i).1) a i (frI ((tipR a b (dSt D 1) (dTr D) i).1) b ((dSt D) 1))), dG D, dSz D, dC D, dSt D, dSh D, dCu D, dLa D, dSw D, dDy D, dDn D, dLt D, dLd D, dSo D)) (P := True) rfl trivial ?_
    rw [show ((nI i) + 1 : Int32) = nI (i + 1) from (gadd (rfl : nI i = nI i) (gk 1))]
    show gW K_Do_tipTray sc { frames := 3, locals := 68, cells := 0, slots := 0 } n0 E 0 0 5 [(0, .ref 0), (1, .int (nI a)), (2, .int (nI b)), (3, .int ((tipR a b (dSt D 1) (dTr D) (i + 1)).2)), (4, .int (nI (i + 1)))] [] (cDo 0 ((tipR a b (dSt D 1) (dTr D) (i + 1)).1, dG D, dSz D, dC D, dSt D, dSh D, dCu D, dLa D, dSw D, dDy D, dDn D, dLt D, dLd D, dSo D))
    exact ih (i + 1) (by omega)
theorem m_tipTray (D : gDom) (a b : Nat) (ha : a < 6) (hb : b < 6) : gM K_Do_tipTray { frames := 3, locals := 68, cells := 0, slots := 0 } [.ref 0, .int (nI a), .int (nI b)] (cDo 0 D) (gD (.inl (some (.int ((tipR a b (dSt D 1) (dTr D) 4).2)))) (cDo 0 (tipD D a b))) := by
  refine gM_of rfl rfl (Nat.le_of_ble_eq_true rfl) (fun sc => ?_)
  refine gW_b D_Do_tipTray 0 4 (pc' := 5) (l' := [(0, .ref 0), (1, .int (nI a)), (2, .int (nI b)), (3, .int 0), (4, .int 0)]) (st' := []) (h' := cDo 0 D) (P := True) rfl trivial ?_
  refine l_tipTray D a b ha hb ?_ 4 0 rfl
  refine gW_b D_Do_tipTray 26 1 (pc' := 46) (l' := [(0, .ref 0), (1, .int (nI a)), (2, .int (nI b)), (3, .int ((tipR a b (dSt D 1) (dTr D) 4).2)), (4, .int (nI 4))]) (st' := [.int ((tipR a b (dSt D 1) (dTr D) 4).2)]) (h' := cDo 0 ((tipR a b (dSt D 1) (dTr D) 4).1, dG D, dSz D, dC D, dSt D, dSh D, dCu D, dLa D, dSw D, dDy D, dDn D, dLt D, dLd D, dSo D)) (P := True) rfl trivial ?_
  exact gW_iret (gdec_at D_Do_tipTray 27 rfl) rfl rfl (Nat.le_of_ble_eq_true rfl) ⟨rfl, rfl⟩ (Nat.le_of_ble_eq_true rfl) (Nat.le_of_ble_eq_true rfl)
def swpS (a : Nat) (x : (Nat → Int32) × (Nat → Int32) × Int32) (t : Nat) : (Nat → Int32) × (Nat → Int32) × Int32 := (upd x.1 (a * 4 + t) (x.1 (a * 4 + t) + -(x.1 (a * 4 + t))), upd x.2.1 t (x.2.1 t + x.1 (a * 4 + t)), x.2.2 + x.1 (a * 4 + t))
def swpR (a : Nat) (f s : Nat → Int32) : Nat → (Nat → Int32) × (Nat → Int32) × Int32
  | 0 => (f, s, 0)
  | t + 1 => swpS a (swpR a f s t) t
def swpD (D : gDom) (a : Nat) : gDom := ((swpR a (dTr D) (dSw D) 4).1, dG D, dSz D, dC D, dSt D, dSh D, dCu D, dLa D, (swpR a (dTr D) (dSw D) 4).2.1, dDy D, dDn D, dLt D, dLd D, dSo D)
theorem l_sweepTray (D : gDom) (a : Nat) (ha : a < 6) {sc : Nat × (Nat → Int32)} {n0 : Nat} {E : gO → gH → Prop} (kk : gW K_Do_sweepTray sc { frames := 2, locals := 46, cells := 0, slots := 0 } n0 E 0 0 41 [(0, .ref 0), (1, .int (nI a)), (2, .int ((swpR a (dTr D) (dSw D) 4).2.2)), (3, .int (nI 4))] [] (cDo 0 ((swpR a (dTr D) (dSw D) 4).1, dG D, dSz D, dC D, dSt D, dSh D, dCu D, dLa D, (swpR a (dTr D) (dSw D) 4).2.1, dDy D, dDn D, dLt D, dLd D, dSo D))) : ∀ (n i : Nat), i + n = 4 → gW K_Do_sweepTray sc { frames := 2, locals := 46, cells := 0, slots := 0 } n0 E 0 0 4 [(0, .ref 0), (1, .int (nI a)), (2, .int ((swpR a (dTr D) (dSw D) i).2.2)), (3, .int (nI i))] [] (cDo 0 ((swpR a (dTr D) (dSw D) i).1, dG D, dSz D, dC D, dSt D, dSh D, dCu D, dLa D, (swpR a (dTr D) (dSw D) i).2.1, dDy D, dDn D, dLt D, dLd D, dSo D)) := by
  intro n
  induction n with
  | zero =>
    intro i hi
    obtain rfl : 4 = i := by omega
    refine gW_b D_Do_sweepTray 4 2 (pc' := 6) (l' := [(0, .ref 0), (1, .int (nI a)), (2, .int ((swpR a (dTr D) (dSw D) 4).2.2)), (3, .int (nI 4))]) (st' := [.int 4, .int (nI 4)]) (h' := cDo 0 ((swpR a (dTr D) (dSw D) 4).1, dG D, dSz D, dC D, dSt D, dSh D, dCu D, dLa D, (swpR a (dTr D) (dSw D) 4).2.1, dDy D, dDn D, dLt D, dLd D, dSo D)) (P := True) rfl trivial ?_
    refine gW_ic_ge (gdec_at D_Do_sweepTray 6 rfl) (tgt := 41) rfl (fun _ => ?_) (fun cq => absurd ((gle (gk 4) (rfl : nI 4 = nI 4) (by omega) (by omega)).mpr (by omega)) cq)
    exact kk
  | succ n ih =>
    intro i hi
    refine gW_b D_Do_sweepTray 4 2 (pc' := 6) (l' := [(0, .ref 0), (1, .int (nI a)), (2, .int ((swpR a (dTr D) (dSw D) i).2.2)), (3, .int (nI i))]) (st' := [.int 4, .int (nI i)]) (h' := cDo 0 ((swpR a (dTr D) (dSw D) i).1, dG D, dSz D, dC D, dSt D, dSh D, dCu D, dLa D, (swpR a (dTr D) (dSw D) i).2.1, dDy D, dDn D, dLt D, dLd D, dSo D)) (P := True) rfl trivial ?_
    refine gW_ic_ge (gdec_at D_Do_sweepTray 6 rfl) (tgt := 41) rfl (fun cq => absurd cq (mt (gle (gk 4) (rfl : nI i = nI i) (by omega) (by omega)).mp (by omega))) (fun _ => ?_)
    refine gW_b D_Do_sweepTray 7 4 (pc' := 15) (l' := [(0, .ref 0), (1, .int (nI a)), (2, .int ((swpR a (dTr D) (dSw D) i).2.2)), (3, .int (nI i))]) (st' := [.int (nI i), .int (nI a), .ref 1]) (h' := cDo 0 ((swpR a (dTr D) (dSw D) i).1, dG D, dSz D, dC D, dSt D, dSh D, dCu D, dLa D, (swpR a (dTr D) (dSw D) i).2.1, dDy D, dDn D, dLt D, dLd D, dSo D)) (P := True) rfl trivial ?_
    refine gW_callV (m_clear ((swpR a (dTr D) (dSw D) i).1) a i (by omega) (by omega)) lk_Do_92 [1, 2] (gdec_at D_Do_sweepTray 11 rfl) (st := []) rfl rfl ⟨rfl, rfl⟩ (Nat.le_of_ble_eq_true rfl) rfl (by decide) rfl (Nat.le_of_ble_eq_true rfl) ⟨Nat.le_of_ble_eq_true rfl, Nat.le_of_ble_eq_true rfl⟩ ⟨Nat.le_of_ble_eq_true rfl, Nat.le_of_ble_eq_true rfl⟩ (gAft_r rfl rfl (h' := cDo 0 (upd ((swpR a (dTr D) (dSw D) i).1) (a * 4 + i) ((((swpR a (dTr D) (dSw D) i).1) (a * 4 + i)) + -(((swpR a (dTr D) (dSw D) i).1) (a * 4 + i))), dG D, dSz D, dC D, dSt D, dSh D, dCu D, dLa D, (swpR a (dTr D) (dSw D) i).2.1, dDy D, dDn D, dLt D, dLd D, dSo D)) (st' := [.int (((swpR a (dTr D) (dSw D) i).1) (a * 4 + i))]) (pc' := 18) (cs' := 0) (ss' := 0) rfl rfl rfl rfl rfl ?_)
    refine gW_b D_Do_sweepTray 12 5 (pc' := 27) (l' := [(0, .ref 0), (1, .int (nI a)), (2, .int ((swpR a (dTr D) (dSw D) i).2.2)), (3, .int (nI i)), (4, .int (((swpR a (dTr D) (dSw D) i).1) (a * 4 + i)))]) (st' := [.int (((swpR a (dTr D) (dSw D) i).1) (a * 4 + i)), .int (nI i), .ref 9]) (h' := cDo 0 (upd ((swpR a (dTr D) (dSw D) i).1) (a * 4 + i) ((((swpR a (dTr D) (dSw D) i).1) (a * 4 + i)) + -(((swpR a (dTr D) (dSw D) i).1) (a * 4 + i))), dG D, dSz D, dC D, dSt D, dSh D, dCu D, dLa D, (swpR a (dTr D) (dSw D) i).2.1, dDy D, dDn D, dLt D, dLd D, dSo D)) (P := True) rfl trivial ?_
    refine gW_callS (m_addAt 4 i ((swpR a (dTr D) (dSw D) i).2.1) (((swpR a (dTr D) (dSw D) i).1) (a * 4 + i)) (by omega) (by omega)) lk_Do_84 [9] (gdec_at D_Do_sweepTray 17 rfl) (st := []) rfl rfl ⟨rfl, rfl⟩ (Nat.le_of_ble_eq_true rfl) (Nat.le_of_ble_eq_true rfl) ⟨Nat.le_of_ble_eq_true rfl, Nat.le_of_ble_eq_true rfl⟩ ⟨Nat.le_of_ble_eq_true rfl, Nat.le_of_ble_eq_true rfl⟩ (gAft_r rfl rfl (h' := cDo 0 (upd ((swpR a (dTr D) (dSw D) i).1) (a * 4 + i) ((((swpR a (dTr D) (dSw D) i).1) (a * 4 + i)) + -(((swpR a (dTr D) (dSw D) i).1) (a * 4 + i))), dG D, dSz D, dC D, dSt D, dSh D, dCu D, dLa D, upd ((swpR a (dTr D) (dSw D) i).2.1) i ((((swpR a (dTr D) (dSw D) i).2.1) i) + (((swpR a (dTr D) (dSw D) i).1) (a * 4 + i))), dDy D, dDn D, dLt D, dLd D, dSo D)) (st' := []) (pc' := 30) (cs' := 0) (ss' := 0) rfl rfl rfl rfl rfl ?_)
    refine gW_b D_Do_sweepTray 18 6 (pc' := 4) (l' := [(0, .ref 0), (1, .int (nI a)), (2, .int (((swpR a (dTr D) (dSw D) i).2.2) + (((swpR a (dTr D) (dSw D) i).1) (a * 4 + i)))), (3, .int ((nI i) + 1)), (4, .int (((swpR a (dTr D) (dSw D) i).1) (a * 4 + i)))]) (st' := []) (h' := cDo 0 (upd ((swpR a (dTr D) (dSw D) i).1) (a * 4 + i) ((((swpR a (dTr D) (dSw D) i).1) (a * 4 + i)) + -(((swpR a (dTr D) (dSw D) i).1) (a * 4 + i))), dG D, dSz D, dC D, dSt D, dSh D, dCu D, dLa D, upd ((swpR a (dTr D) (dSw D) i).2.1) i ((((swpR a (dTr D) (dSw D) i).2.1) i) + (((swpR a (dTr D) (dSw D) i).1) (a * 4 + i))), dDy D, dDn D, dLt D, dLd D, dSo D)) (P := True) rfl trivial ?_
    rw [show ((nI i) + 1 : Int32) = nI (i + 1) from (gadd (rfl : nI i = nI i) (gk 1))]
    refine gW_l [0, 1, 2, 3] (l' := [(0, .ref 0), (1, .int (nI a)), (2, .int (((swpR a (dTr D) (dSw D) i).2.2) + (((swpR a (dTr D) (dSw D) i).1) (a * 4 + i)))), (3, .int (nI (i + 1)))]) rfl ?_
    show gW K_Do_sweepTray sc { frames := 2, locals := 46, cells := 0, slots := 0 } n0 E 0 0 4 [(0, .ref 0), (1, .int (nI a)), (2, .int ((swpR a (dTr D) (dSw D) (i + 1)).2.2)), (3, .int (nI (i + 1)))] [] (cDo 0 ((swpR a (dTr D) (dSw D) (i + 1)).1, dG D, dSz D, dC D, dSt D, dSh D, dCu D, dLa D, (swpR a (dTr D) (dSw D) (i + 1)).2.1, dDy D, dDn D, dLt D, dLd D, dSo D))
    exact ih (i + 1) (by omega)
theorem m_sweepTray (D : gDom) (a : Nat) (ha : a < 6) : gM K_Do_sweepTray { frames := 2, locals := 46, cells := 0, slots := 0 } [.ref 0, .int (nI a)] (cDo 0 D) (gD (.inl (some (.int ((swpR a (dTr D) (dSw D) 4).2.2)))) (cDo 0 (swpD D a))) := by
  refine gM_of rfl rfl (Nat.le_of_ble_eq_true rfl) (fun sc => ?_)
  refine gW_b D_Do_sweepTray 0 4 (pc' := 4) (l' := [(0, .ref 0), (1, .int (nI a)), (2, .int 0), (3, .int 0)]) (st' := []) (h' := cDo 0 D) (P := True) rfl trivial ?_
  refine l_sweepTray D a ha ?_ 4 0 rfl
  refine gW_b D_Do_sweepTray 24 1 (pc' := 42) (l' := [(0, .ref 0), (1, .int (nI a)), (2, .int ((swpR a (dTr D) (dSw D) 4).2.2)), (3, .int (nI 4))]) (st' := [.int ((swpR a (dTr D) (dSw D) 4).2.2)]) (h' := cDo 0 ((swpR a (dTr D) (dSw D) 4).1, dG D, dSz D, dC D, dSt D, dSh D, dCu D, dLa D, (swpR a (dTr D) (dSw D) 4).2.1, dDy D, dDn D, dLt D, dLd D, dSo D)) (P := True) rfl trivial ?_
  exact gW_iret (gdec_at D_Do_sweepTray 25 rfl) rfl rfl (Nat.le_of_ble_eq_true rfl) ⟨rfl, rfl⟩ (Nat.le_of_ble_eq_true rfl) (Nat.le_of_ble_eq_true rfl)
def setG (D : gDom) (g : Nat → Int32) : gDom := (dTr D, g, D.2.2)
def addD (D : gDom) (t u d : Int32) : gDom := (dTr D, arrO (keyOf (dSt D 2)) (adF (dG D) (dSz D) (dC D) t u d) (dSz D + 1 - 1), dSz D + 1, dC D + 1, D.2.2.2.2)

theorem m_addSection (D : gDom) (t u d : Int32) (hs : dSz D < 10) : gM K_Do_addSection { frames := 3, locals := 72, cells := 0, slots := 0 } [.ref 0, .int t, .int u, .int d] (cDo 0 D) (gD (.inl (some (.int (dC D)))) (cDo 0 (addD D t u d))) := by
  refine gM_of rfl rfl (Nat.le_of_ble_eq_true rfl) (fun sc => ?_)
  refine gW_b D_Do_addSection 0 5 (pc' := 7) (l' := [(0, .ref 0), (1, .int t), (2, .int u), (3, .int d)]) (st' := [.int d, .int u, .int t, .ref 3]) (h' := cDo 0 D) (P := True) rfl trivial ?_
  refine gW_callV (m_add (dG D) (dSz D) (dC D) t u d (by omega)) lk_Do_95 [3, 4] (gdec_at D_Do_addSection 5 rfl) (st := []) rfl rfl ⟨rfl, rfl⟩ (Nat.le_of_ble_eq_true rfl) rfl (by decide) rfl (Nat.le_of_ble_eq_true rfl) ⟨Nat.le_of_ble_eq_true rfl, Nat.le_of_ble_eq_true rfl⟩ ⟨Nat.le_of_ble_eq_true rfl, Nat.le_of_ble_eq_true rfl⟩ (gAft_r rfl rfl (h' := cDo 0 (dTr D, adF (dG D) (dSz D) (dC D) t u d, dSz D + 1, (dC D) + 1, dSt D, dSh D, dCu D, dLa D, dSw D, dDy D, dDn D, dLt D, dLd D, dSo D)) (st' := [.int (dC D)]) (pc' := 10) (cs' := 0) (ss' := 0) rfl rfl rfl rfl rfl ?_)
  refine gW_b D_Do_addSection 6 7 (pc' := 22) (l' := [(0, .ref 0), (1, .int t), (2, .int u), (3, .int d), (4, .int (dC D))]) (st' := [.int ((dSt D) 2), .ref 3]) (h' := cDo 0 (dTr D, adF (dG D) (dSz D) (dC D) t u d, dSz D + 1, (dC D) + 1, dSt D, dSh D, dCu D, dLa D, dSw D, dDy D, dDn D, dLt D, dLd D, dSo D)) (P := vp_in 2 6 ∧ True) rfl ⟨(gvl 2 6 (by omega) (by omega)), trivial⟩ ?_
  refine gW_callV (m_arrange (adF (dG D) (dSz D) (dC D) t u d) (dSz D + 1) ((dC D) + 1) ((dSt D) 2) (by omega)) lk_Do_99 [3, 4] (gdec_at D_Do_addSection 13 rfl) (st := []) rfl rfl ⟨rfl, rfl⟩ (Nat.le_of_ble_eq_true rfl) rfl (by decide) rfl (Nat.le_of_ble_eq_true rfl) ⟨Nat.le_of_ble_eq_true rfl, Nat.le_of_ble_eq_true rfl⟩ ⟨Nat.le_of_ble_eq_true rfl, Nat.le_of_ble_eq_true rfl⟩ (gAft_r rfl rfl (h' := cDo 0 (dTr D, arrO (keyOf ((dSt D) 2)) (adF (dG D) (dSz D) (dC D) t u d) ((dSz D + 1) - 1), dSz D + 1, (dC D) + 1, dSt D, dSh D, dCu D, dLa D, dSw D, dDy D, dDn D, dLt D, dLd D, dSo D)) (st' := []) (pc' := 25) (cs' := 0) (ss' := 0) rfl rfl rfl rfl rfl ?_)
  refine gW_b D_Do_addSection 14 1 (pc' := 27) (l' := [(0, .ref 0), (1, .int t), (2, .int u), (3, .int d), (4, .int (dC D))]) (st' := [.int (dC D)]) (h' := cDo 0 (dTr D, arrO (keyOf ((dSt D) 2)) (adF (dG D) (dSz D) (dC D) t u d) ((dSz D + 1) - 1), dSz D + 1, (dC D) + 1, dSt D, dSh D, dCu D, dLa D, dSw D, dDy D, dDn D, dLt D, dLd D, dSo D)) (P := True) rfl trivial ?_
  exact gW_iret (gdec_at D_Do_addSection 15 rfl) rfl rfl (Nat.le_of_ble_eq_true rfl) ⟨rfl, rfl⟩ (Nat.le_of_ble_eq_true rfl) (Nat.le_of_ble_eq_true rfl)
/-- a tone as a number -/
abbrev tnx (x : Int32) : Nat := x.toNatClampNeg
abbrev okT (x : Int32) : Prop := x = nI (tnx x) ∧ tnx x < 4
/-- what a walk asks of a dome: few sections, their tones are tones -/
def dOK (D : gDom) : Prop := dSz D ≤ 10 ∧ ∀ p, p < dSz D → okT (dG D (p * 5 + 1))
def drpD (D : gDom) (p : Nat) : gDom := (dTr D, rmO (dG D) p (dSz D - 1 - p), dSz D - 1, dC D, dSt D, dSh D, dCu D, upd (dLa D) (tnx (dG D (p * 5 + 1))) (dLa D (tnx (dG D (p * 5 + 1))) + -(dG D (p * 5 + 4))), upd (dSw D) (tnx (dG D (p * 5 + 1))) (dSw D (tnx (dG D (p * 5 + 1))) + dG D (p * 5 + 4)), D.2.2.2.2.2.2.2.2.2)

theorem m_dropSection (D : gDom) (p : Nat) (hok : dOK D) (hp : p < dSz D) : gM K_Do_dropSection { frames := 2, locals := 46, cells := 0, slots := 0 } [.ref 0, .int (nI p)] (cDo 0 D) (gD (.inl (some (.int (dG D (p * 5 + 4))))) (cDo 0 (drpD D p))) := by
  refine gM_of rfl rfl (Nat.le_of_ble_eq_true rfl) (fun sc => ?_)
  obtain ⟨hs, hts⟩ := id hok
  obtain ⟨hT, hT4⟩ := hts p hp
  refine gW_b D_Do_dropSection 0 4 (pc' := 6) (l' := [(0, .ref 0), (1, .int (nI p))]) (st' := [.int 1, .int (nI p), .ref 3]) (h' := cDo 0 D) (P := True) rfl trivial ?_
  refine gW_callV (m_valueOf (dG D) (dSz D) (dC D) p 1 (by omega) (by omega) (by omega)) lk_Do_103 [3, 4] (gdec_at D_Do_dropSection 4 rfl) (st := []) rfl rfl ⟨rfl, rfl⟩ (Nat.le_of_ble_eq_true rfl) rfl (by decide) rfl (Nat.le_of_ble_eq_true rfl) ⟨Nat.le_of_ble_eq_true rfl, Nat.le_of_ble_eq_true rfl⟩ ⟨Nat.le_of_ble_eq_true rfl, Nat.le_of_ble_eq_true rfl⟩ (gAft_r rfl rfl (h' := cDo 0 D) (st' := [.int ((dG D) (p * 5 + 1))]) (pc' := 9) (cs' := 0) (ss' := 0) rfl rfl rfl rfl rfl ?_)
  refine gW_b D_Do_dropSection 5 5 (pc' := 16) (l' := [(0, .ref 0), (1, .int (nI p)), (2, .int ((dG D) (p * 5 + 1)))]) (st' := [.int 4, .int (nI p), .ref 3]) (h' := cDo 0 D) (P := True) rfl trivial ?_
  refine gW_callV (m_valueOf (dG D) (dSz D) (dC D) p 4 (by omega) (by omega) (by omega)) lk_Do_103 [3, 4] (gdec_at D_Do_dropSection 10 rfl) (st := []) rfl rfl ⟨rfl, rfl⟩ (Nat.le_of_ble_eq_true rfl) rfl (by decide) rfl (Nat.le_of_ble_eq_true rfl) ⟨Nat.le_of_ble_eq_true rfl, Nat.le_of_ble_eq_true rfl⟩ ⟨Nat.le_of_ble_eq_true rfl, Nat.le_of_ble_eq_true rfl⟩ (gAft_r rfl rfl (h' := cDo 0 D) (st' := [.int ((dG D) (p * 5 + 4))]) (pc' := 19) (cs' := 0) (ss' := 0) rfl rfl rfl rfl rfl ?_)
  refine gW_b D_Do_dropSection 11 6 (pc' := 27) (l' := [(0, .ref 0), (1, .int (nI p)), (2, .int ((dG D) (p * 5 + 1))), (3, .int ((dG D) (p * 5 + 4)))]) (st' := [.int (-((dG D) (p * 5 + 4))), .int ((dG D) (p * 5 + 1)), .ref 8]) (h' := cDo 0 D) (P := True) rfl trivial ?_
  rw [show ((dG D) (p * 5 + 1) : Int32) = nI (tnx (dG D (p * 5 + 1))) from hT]
  refine gW_callS (m_addAt 4 (tnx (dG D (p * 5 + 1))) (dLa D) (-((dG D) (p * 5 + 4))) (by omega) (by omega)) lk_Do_84 [8] (gdec_at D_Do_dropSection 17 rfl) (st := []) rfl rfl ⟨rfl, rfl⟩ (Nat.le_of_ble_eq_true rfl) (Nat.le_of_ble_eq_true rfl) ⟨Nat.le_of_ble_eq_true rfl, Nat.le_of_ble_eq_true rfl⟩ ⟨Nat.le_of_ble_eq_true rfl, Nat.le_of_ble_eq_true rfl⟩ (gAft_r rfl rfl (h' := cDo 0 (dTr D, dG D, dSz D, dC D, dSt D, dSh D, dCu D, upd (dLa D) (tnx (dG D (p * 5 + 1))) (((dLa D) (tnx (dG D (p * 5 + 1)))) + (-((dG D) (p * 5 + 4)))), dSw D, dDy D, dDn D, dLt D, dLd D, dSo D)) (st' := []) (pc' := 30) (cs' := 0) (ss' := 0) rfl rfl rfl rfl rfl ?_)
  refine gW_b D_Do_dropSection 18 4 (pc' := 36) (l' := [(0, .ref 0), (1, .int (nI p)), (2, .int (nI (tnx (dG D (p * 5 + 1))))), (3, .int ((dG D) (p * 5 + 4)))]) (st' := [.int ((dG D) (p * 5 + 4)), .int (nI (tnx (dG D (p * 5 + 1)))), .ref 9]) (h' := cDo 0 (dTr D, dG D, dSz D, dC D, dSt D, dSh D, dCu D, upd (dLa D) (tnx (dG D (p * 5 + 1))) (((dLa D) (tnx (dG D (p * 5 + 1)))) + (-((dG D) (p * 5 + 4)))), dSw D, dDy D, dDn D, dLt D, dLd D, dSo D)) (P := True) rfl trivial ?_
  refine gW_callS (m_addAt 4 (tnx (dG D (p * 5 + 1))) (dSw D) ((dG D) (p * 5 + 4)) (by omega) (by omega)) lk_Do_84 [9] (gdec_at D_Do_dropSection 22 rfl) (st := []) rfl rfl ⟨rfl, rfl⟩ (Nat.le_of_ble_eq_true rfl) (Nat.le_of_ble_eq_true rfl) ⟨Nat.le_of_ble_eq_true rfl, Nat.le_of_ble_eq_true rfl⟩ ⟨Nat.le_of_ble_eq_true rfl, Nat.le_of_ble_eq_true rfl⟩ (gAft_r rfl rfl (h' := cDo 0 (dTr D, dG D, dSz D, dC D, dSt D, dSh D, dCu D, upd (dLa D) (tnx (dG D (p * 5 + 1))) (((dLa D) (tnx (dG D (p * 5 + 1)))) + (-((dG D) (p * 5 + 4)))), upd (dSw D) (tnx (dG D (p * 5 + 1))) (((dSw D) (tnx (dG D (p * 5 + 1)))) + ((dG D) (p * 5 + 4))), dDy D, dDn D, dLt D, dLd D, dSo D)) (st' := []) (pc' := 39) (cs' := 0) (ss' := 0) rfl rfl rfl rfl rfl ?_)
  refine gW_b D_Do_dropSection 23 3 (pc' := 44) (l' := [(0, .ref 0), (1, .int (nI p)), (2, .int (nI (tnx (dG D (p * 5 + 1))))), (3, .int ((dG D) (p * 5 + 4)))]) (st' := [.int (nI p), .ref 3]) (h' := cDo 0 (dTr D, dG D, dSz D, dC D, dSt D, dSh D, dCu D, upd (dLa D) (tnx (dG D (p * 5 + 1))) (((dLa D) (tnx (dG D (p * 5 + 1)))) + (-((dG D) (p * 5 + 4)))), upd (dSw D) (tnx (dG D (p * 5 + 1))) (((dSw D) (tnx (dG D (p * 5 + 1)))) + ((dG D) (p * 5 + 4))), dDy D, dDn D, dLt D, dLd D, dSo D)) (P := True) rfl trivial ?_
  refine gW_callV (m_remove (dG D) (dSz D) (dC D) p (by omega) (by omega)) lk_Do_106 [3, 4] (gdec_at D_Do_dropSection 26 rfl) (st := []) rfl rfl ⟨rfl, rfl⟩ (Nat.le_of_ble_eq_true rfl) rfl (by decide) rfl (Nat.le_of_ble_eq_true rfl) ⟨Nat.le_of_ble_eq_true rfl, Nat.le_of_ble_eq_true rfl⟩ ⟨Nat.le_of_ble_eq_true rfl, Nat.le_of_ble_eq_true rfl⟩ (gAft_r rfl rfl (h' := cDo 0 (dTr D, rmO (dG D) p ((dSz D) - 1 - p), (dSz D) - 1, dC D, dSt D, dSh D, dCu D, upd (dLa D) (tnx (dG D (p * 5 + 1))) (((dLa D) (tnx (dG D (p * 5 + 1)))) + (-((dG D) (p * 5 + 4)))), upd (dSw D) (tnx (dG D (p * 5 + 1))) (((dSw D) (tnx (dG D (p * 5 + 1)))) + ((dG D) (p * 5 + 4))), dDy D, dDn D, dLt D, dLd D, dSo D)) (st' := []) (pc' := 47) (cs' := 0) (ss' := 0) rfl rfl rfl rfl rfl ?_)
  refine gW_b D_Do_dropSection 27 1 (pc' := 48) (l' := [(0, .ref 0), (1, .int (nI p)), (2, .int (nI (tnx (dG D (p * 5 + 1))))), (3, .int ((dG D) (p * 5 + 4)))]) (st' := [.int ((dG D) (p * 5 + 4))]) (h' := cDo 0 (dTr D, rmO (dG D) p ((dSz D) - 1 - p), (dSz D) - 1, dC D, dSt D, dSh D, dCu D, upd (dLa D) (tnx (dG D (p * 5 + 1))) (((dLa D) (tnx (dG D (p * 5 + 1)))) + (-((dG D) (p * 5 + 4)))), upd (dSw D) (tnx (dG D (p * 5 + 1))) (((dSw D) (tnx (dG D (p * 5 + 1)))) + ((dG D) (p * 5 + 4))), dDy D, dDn D, dLt D, dLd D, dSo D)) (P := True) rfl trivial ?_
  exact gW_iret (gdec_at D_Do_dropSection 28 rfl) rfl rfl (Nat.le_of_ble_eq_true rfl) ⟨rfl, rfl⟩ (Nat.le_of_ble_eq_true rfl) (Nat.le_of_ble_eq_true rfl)
def chgD (D : gDom) (s : Nat) (v : Int32) : gDom := (dTr D, arrO (keyOf (upd (dSt D) s (dSt D s + (v - dSt D s)) 2)) (dG D) (dSz D - 1), dSz D, dC D, upd (dSt D) s (dSt D s + (v - dSt D s)), D.2.2.2.2.2)

theorem m_changeSetting (D : gDom) (s : Nat) (v : Int32) (hs6 : s < 6) (hs : dSz D ≤ 10) : gM K_Do_changeSetting { frames := 3, locals := 72, cells := 0, slots := 0 } [.ref 0, .int (nI s), .int v] (cDo 0 D) (gD (.inl (some (.int (dSt D s)))) (cDo 0 (chgD D s v))) := by
  refine gM_of rfl rfl (Nat.le_of_ble_eq_true rfl) (fun sc => ?_)
  refine gW_b D_Do_changeSetting 0 3 (pc' := 5) (l' := [(0, .ref 0), (1, .int (nI s)), (2, .int v)]) (st' := [.int (nI s), .ref 5]) (h' := cDo 0 D) (P := True) rfl trivial ?_
  refine gW_callS (m_valueAt 6 s (dSt D) (by omega) (by omega)) lk_Do_109 [5] (gdec_at D_Do_changeSetting 3 rfl) (st := []) rfl rfl ⟨rfl, rfl⟩ (Nat.le_of_ble_eq_true rfl) (Nat.le_of_ble_eq_true rfl) ⟨Nat.le_of_ble_eq_true rfl, Nat.le_of_ble_eq_true rfl⟩ ⟨Nat.le_of_ble_eq_true rfl, Nat.le_of_ble_eq_true rfl⟩ (gAft_r rfl rfl (h' := cDo 0 D) (st' := [.int ((dSt D) s)]) (pc' := 8) (cs' := 0) (ss' := 0) rfl rfl rfl rfl rfl ?_)
  refine gW_b D_Do_changeSetting 4 7 (pc' := 17) (l' := [(0, .ref 0), (1, .int (nI s)), (2, .int v), (3, .int ((dSt D) s))]) (st' := [.int (v - ((dSt D) s)), .int (nI s), .ref 5]) (h' := cDo 0 D) (P := True) rfl trivial ?_
  refine gW_callS (m_addAt 6 s (dSt D) (v - ((dSt D) s)) (by omega) (by omega)) lk_Do_84 [5] (gdec_at D_Do_changeSetting 11 rfl) (st := []) rfl rfl ⟨rfl, rfl⟩ (Nat.le_of_ble_eq_true rfl) (Nat.le_of_ble_eq_true rfl) ⟨Nat.le_of_ble_eq_true rfl, Nat.le_of_ble_eq_true rfl⟩ ⟨Nat.le_of_ble_eq_true rfl, Nat.le_of_ble_eq_true rfl⟩ (gAft_r rfl rfl (h' := cDo 0 (dTr D, dG D, dSz D, dC D, upd (dSt D) s (((dSt D) s) + (v - ((dSt D) s))), dSh D, dCu D, dLa D, dSw D, dDy D, dDn D, dLt D, dLd D, dSo D)) (st' := []) (pc' := 20) (cs' := 0) (ss' := 0) rfl rfl rfl rfl rfl ?_)
  refine gW_b D_Do_changeSetting 12 6 (pc' := 30) (l' := [(0, .ref 0), (1, .int (nI s)), (2, .int v), (3, .int ((dSt D) s))]) (st' := [.int ((upd (dSt D) s (((dSt D) s) + (v - ((dSt D) s)))) 2), .ref 3]) (h' := cDo 0 (dTr D, dG D, dSz D, dC D, upd (dSt D) s (((dSt D) s) + (v - ((dSt D) s))), dSh D, dCu D, dLa D, dSw D, dDy D, dDn D, dLt D, dLd D, dSo D)) (P := vp_in 2 6 ∧ True) rfl ⟨(gvl 2 6 (by omega) (by omega)), trivial⟩ ?_
  refine gW_callV (m_arrange (dG D) (dSz D) (dC D) ((upd (dSt D) s (((dSt D) s) + (v - ((dSt D) s)))) 2) (by omega)) lk_Do_99 [3, 4] (gdec_at D_Do_changeSetting 18 rfl) (st := []) rfl rfl ⟨rfl, rfl⟩ (Nat.le_of_ble_eq_true rfl) rfl (by decide) rfl (Nat.le_of_ble_eq_true rfl) ⟨Nat.le_of_ble_eq_true rfl, Nat.le_of_ble_eq_true rfl⟩ ⟨Nat.le_of_ble_eq_true rfl, Nat.le_of_ble_eq_true rfl⟩ (gAft_r rfl rfl (h' := cDo 0 (dTr D, arrO (keyOf ((upd (dSt D) s (((dSt D) s) + (v - ((dSt D) s)))) 2)) (dG D) ((dSz D) - 1), dSz D, dC D, upd (dSt D) s (((dSt D) s) + (v - ((dSt D) s))), dSh D, dCu D, dLa D, dSw D, dDy D, dDn D, dLt D, dLd D, dSo D)) (st' := []) (pc' := 33) (cs' := 0) (ss' := 0) rfl rfl rfl rfl rfl ?_)
  refine gW_b D_Do_changeSetting 19 1 (pc' := 34) (l' := [(0, .ref 0), (1, .int (nI s)), (2, .int v), (3, .int ((dSt D) s))]) (st' := [.int ((dSt D) s)]) (h' := cDo 0 (dTr D, arrO (keyOf ((upd (dSt D) s (((dSt D) s) + (v - ((dSt D) s)))) 2)) (dG D) ((dSz D) - 1), dSz D, dC D, upd (dSt D) s (((dSt D) s) + (v - ((dSt D) s))), dSh D, dCu D, dLa D, dSw D, dDy D, dDn D, dLt D, dLd D, dSo D)) (P := True) rfl trivial ?_
  exact gW_iret (gdec_at D_Do_changeSetting 20 rfl) rfl rfl (Nat.le_of_ble_eq_true rfl) ⟨rfl, rfl⟩ (Nat.le_of_ble_eq_true rfl) (Nat.le_of_ble_eq_true rfl)
def clb (D : gDom) (p : Nat) : Bool := decide (¬ dG D (p * 5 + 2) ≤ 0) && decide (¬ rdc (dTr D) (tnx (dG D (p * 5 + 1))) 6 ≤ 0)

theorem m_canBeLaid (D : gDom) (p : Nat) (hok : dOK D) (hp : p < dSz D) : gM K_Do_canBeLaid { frames := 2, locals := 46, cells := 0, slots := 0 } [.ref 0, .int (nI p)] (cDo 0 D) (gD (.inl (some (.int (bI (clb D p))))) (cDo 0 D)) := by
  refine gM_of rfl rfl (Nat.le_of_ble_eq_true rfl) (fun sc => ?_)
  obtain ⟨hs, hts⟩ := id hok
  obtain ⟨hT, hT4⟩ := hts p hp
  refine gW_b D_Do_canBeLaid 0 4 (pc' := 6) (l' := [(0, .ref 0), (1, .int (nI p))]) (st' := [.int 2, .int (nI p), .ref 3]) (h' := cDo 0 D) (P := True) rfl trivial ?_
  refine gW_callV (m_valueOf (dG D) (dSz D) (dC D) p 2 (by omega) (by omega) (by omega)) lk_Do_103 [3, 4] (gdec_at D_Do_canBeLaid 4 rfl) (st := []) rfl rfl ⟨rfl, rfl⟩ (Nat.le_of_ble_eq_true rfl) rfl (by decide) rfl (Nat.le_of_ble_eq_true rfl) ⟨Nat.le_of_ble_eq_true rfl, Nat.le_of_ble_eq_true rfl⟩ ⟨Nat.le_of_ble_eq_true rfl, Nat.le_of_ble_eq_true rfl⟩ (gAft_r rfl rfl (h' := cDo 0 D) (st' := [.int ((dG D) (p * 5 + 2))]) (pc' := 9) (cs' := 0) (ss' := 0) rfl rfl rfl rfl rfl ?_)
  refine gW_if_le (gdec_at D_Do_canBeLaid 5 rfl) (tgt := 35) rfl (fun c => ?_) (fun c => ?_)
  · skip
    refine gW_b D_Do_canBeLaid 17 1 (pc' := 36) (l' := [(0, .ref 0), (1, .int (nI p))]) (st' := [.int 0]) (h' := cDo 0 D) (P := True) rfl trivial ?_
    rw [show bI (clb D p) = 0 from by simp [clb, c, bI]]
    exact gW_iret (gdec_at D_Do_canBeLaid 18 rfl) rfl rfl (Nat.le_of_ble_eq_true rfl) ⟨rfl, rfl⟩ (Nat.le_of_ble_eq_true rfl) (Nat.le_of_ble_eq_true rfl)
  · skip
    refine gW_b D_Do_canBeLaid 6 6 (pc' := 22) (l' := [(0, .ref 0), (1, .int (nI p))]) (st' := [.int 1, .int (nI p), .ref 3, .ref 1]) (h' := cDo 0 D) (P := True) rfl trivial ?_
    refine gW_callV (m_valueOf (dG D) (dSz D) (dC D) p 1 (by omega) (by omega) (by omega)) lk_Do_103 [3, 4] (gdec_at D_Do_canBeLaid 12 rfl) (st := [.ref 1]) rfl rfl ⟨rfl, rfl⟩ (Nat.le_of_ble_eq_true rfl) rfl (by decide) rfl (Nat.le_of_ble_eq_true rfl) ⟨Nat.le_of_ble_eq_true rfl, Nat.le_of_ble_eq_true rfl⟩ ⟨Nat.le_of_ble_eq_true rfl, Nat.le_of_ble_eq_true rfl⟩ (gAft_r rfl rfl (h' := cDo 0 D) (st' := [.int ((dG D) (p * 5 + 1)), .ref 1]) (pc' := 25) (cs' := 0) (ss' := 0) rfl rfl rfl rfl rfl ?_)
    rw [show ((dG D) (p * 5 + 1) : Int32) = nI (tnx (dG D (p * 5 + 1))) from hT]
    refine gW_callV (m_readyOf (dTr D) (tnx (dG D (p * 5 + 1))) (by omega)) lk_Do_134 [1, 2] (gdec_at D_Do_canBeLaid 13 rfl) (st := []) rfl rfl ⟨rfl, rfl⟩ (Nat.le_of_ble_eq_true rfl) rfl (by decide) rfl (Nat.le_of_ble_eq_true rfl) ⟨Nat.le_of_ble_eq_true rfl, Nat.le_of_ble_eq_true rfl⟩ ⟨Nat.le_of_ble_eq_true rfl, Nat.le_of_ble_eq_true rfl⟩ (gAft_r rfl rfl (h' := cDo 0 D) (st' := [.int (rdc (dTr D) (tnx (dG D (p * 5 + 1))) 6)]) (pc' := 28) (cs' := 0) (ss' := 0) rfl rfl rfl rfl rfl ?_)
    refine gW_if_le (gdec_at D_Do_canBeLaid 14 rfl) (tgt := 35) rfl (fun d => ?_) (fun d => ?_)
    · skip
      refine gW_b D_Do_canBeLaid 17 1 (pc' := 36) (l' := [(0, .ref 0), (1, .int (nI p))]) (st' := [.int 0]) (h' := cDo 0 D) (P := True) rfl trivial ?_
      rw [show bI (clb D p) = 0 from by simp [clb, c, d, bI]]
      exact gW_iret (gdec_at D_Do_canBeLaid 18 rfl) rfl rfl (Nat.le_of_ble_eq_true rfl) ⟨rfl, rfl⟩ (Nat.le_of_ble_eq_true rfl) (Nat.le_of_ble_eq_true rfl)
    · skip
      refine gW_b D_Do_canBeLaid 15 2 (pc' := 36) (l' := [(0, .ref 0), (1, .int (nI p))]) (st' := [.int 1]) (h' := cDo 0 D) (P := True) rfl trivial ?_
      rw [show bI (clb D p) = 1 from by simp [clb, c, d, bI]]
      exact gW_iret (gdec_at D_Do_canBeLaid 18 rfl) rfl rfl (Nat.le_of_ble_eq_true rfl) ⟨rfl, rfl⟩ (Nat.le_of_ble_eq_true rfl) (Nat.le_of_ble_eq_true rfl)
def layW (D : gDom) (p : Nat) : Int32 := if dSt D 4 < tkn (dSt D 5) (dG D (p * 5 + 2)) then dSt D 4 else tkn (dSt D 5) (dG D (p * 5 + 2))
/-- the trays behind one setter's work on the section at place p, and how many cubes are taken -/
def layX (D : gDom) (p : Nat) : (Nat → Int32) × Int32 := tkR (tnx (dG D (p * 5 + 1))) (layW D p) 6 0 (dTr D) 0
def layB (D : gDom) (p : Nat) : Int32 := if dSt D 5 ≤ 0 then 0 else (layX D p).2 / dSt D 5
def layD0 (D : gDom) (p : Nat) (b : Int32) : gDom := ((layX D p).1, layF (dG D) p ((layX D p).2 - b), dSz D, dC D, dSt D, dSh D, dCu D, upd (dLa D) (tnx (dG D (p * 5 + 1))) (dLa D (tnx (dG D (p * 5 + 1))) + ((layX D p).2 - b)), upd (dSw D) (tnx (dG D (p * 5 + 1))) (dSw D (tnx (dG D (p * 5 + 1))) + b), D.2.2.2.2.2.2.2.2.2)
def layD (D : gDom) (p : Nat) : gDom := layD0 D p (layB D p)

theorem m_layOnce (D : gDom) (p : Nat) (hok : dOK D) (hp : p < dSz D) : gM K_Do_layOnce { frames := 2, locals := 48, cells := 0, slots := 0 } [.ref 0, .int (nI p)] (cDo 0 D) (gD (.inl none) (cDo 0 (layD D p))) := by
  refine gM_of rfl rfl (Nat.le_of_ble_eq_true rfl) (fun sc => ?_)
  obtain ⟨hs, hts⟩ := id hok
  obtain ⟨hT, hT4⟩ := hts p hp
  refine gW_b D_Do_layOnce 0 4 (pc' := 6) (l' := [(0, .ref 0), (1, .int (nI p))]) (st' := [.int 1, .int (nI p), .ref 3]) (h' := cDo 0 D) (P := True) rfl trivial ?_
  refine gW_callV (m_valueOf (dG D) (dSz D) (dC D) p 1 (by omega) (by omega) (by omega)) lk_Do_103 [3, 4] (gdec_at D_Do_layOnce 4 rfl) (st := []) rfl rfl ⟨rfl, rfl⟩ (Nat.le_of_ble_eq_true rfl) rfl (by decide) rfl (Nat.le_of_ble_eq_true rfl) ⟨Nat.le_of_ble_eq_true rfl, Nat.le_of_ble_eq_true rfl⟩ ⟨Nat.le_of_ble_eq_true rfl, Nat.le_of_ble_eq_true rfl⟩ (gAft_r rfl rfl (h' := cDo 0 D) (st' := [.int ((dG D) (p * 5 + 1))]) (pc' := 9) (cs' := 0) (ss' := 0) rfl rfl rfl rfl rfl ?_)
  refine gW_b D_Do_layOnce 5 6 (pc' := 17) (l' := [(0, .ref 0), (1, .int (nI p)), (2, .int ((dG D) (p * 5 + 1)))]) (st' := [.int 2, .int (nI p), .ref 3, .ref 0]) (h' := cDo 0 D) (P := True) rfl trivial ?_
  refine gW_callV (m_valueOf (dG D) (dSz D) (dC D) p 2 (by omega) (by omega) (by omega)) lk_Do_103 [3, 4] (gdec_at D_Do_layOnce 11 rfl) (st := [.ref 0]) rfl rfl ⟨rfl, rfl⟩ (Nat.le_of_ble_eq_true rfl) rfl (by decide) rfl (Nat.le_of_ble_eq_true rfl) ⟨Nat.le_of_ble_eq_true rfl, Nat.le_of_ble_eq_true rfl⟩ ⟨Nat.le_of_ble_eq_true rfl, Nat.le_of_ble_eq_true rfl⟩ (gAft_r rfl rfl (h' := cDo 0 D) (st' := [.int ((dG D) (p * 5 + 2)), .ref 0]) (pc' := 20) (cs' := 0) (ss' := 0) rfl rfl rfl rfl rfl ?_)
  refine gW_callV (m_takenFor D ((dG D) (p * 5 + 2))) lk_Do_137 [0, 1, 2, 3, 4, 5, 6, 7, 8, 9] (gdec_at D_Do_layOnce 12 rfl) (st := []) rfl rfl ⟨rfl, rfl⟩ (Nat.le_of_ble_eq_true rfl) rfl (by decide) rfl (Nat.le_of_ble_eq_true rfl) ⟨Nat.le_of_ble_eq_true rfl, Nat.le_of_ble_eq_true rfl⟩ ⟨Nat.le_of_ble_eq_true rfl, Nat.le_of_ble_eq_true rfl⟩ (gAft_r rfl rfl (h' := cDo 0 D) (st' := [.int (tkn ((dSt D) 5) ((dG D) (p * 5 + 2)))]) (pc' := 23) (cs' := 0) (ss' := 0) rfl rfl rfl rfl rfl ?_)
  refine gW_b D_Do_layOnce 13 4 (pc' := 29) (l' := [(0, .ref 0), (1, .int (nI p)), (2, .int ((dG D) (p * 5 + 1)))]) (st' := [.int ((dSt D) 4), .int (tkn ((dSt D) 5) ((dG D) (p * 5 + 2)))]) (h' := cDo 0 D) (P := vp_in 4 6 ∧ True) rfl ⟨(gvl 4 6 (by omega) (by omega)), trivial⟩ ?_
  refine gW_min (gmem 361 (by decide +kernel)) (gdec_at D_Do_layOnce 17 rfl) (Nat.le_of_ble_eq_true rfl) (Nat.le_of_ble_eq_true rfl) (Nat.le_of_ble_eq_true rfl) (Nat.le_of_ble_eq_true rfl) ?_
  rw [show (if (dSt D) 4 < tkn ((dSt D) 5) ((dG D) (p * 5 + 2)) then (dSt D) 4 else tkn ((dSt D) 5) ((dG D) (p * 5 + 2)) : Int32) = layW D p from rfl]
  refine gW_b D_Do_layOnce 18 5 (pc' := 39) (l' := [(0, .ref 0), (1, .int (nI p)), (2, .int ((dG D) (p * 5 + 1))), (3, .int (layW D p))]) (st' := [.int (layW D p), .int ((dG D) (p * 5 + 1)), .ref 1]) (h' := cDo 0 D) (P := True) rfl trivial ?_
  rw [show ((dG D) (p * 5 + 1) : Int32) = nI (tnx (dG D (p * 5 + 1))) from hT]
  refine gW_callV (m_takeReady (dTr D) (tnx (dG D (p * 5 + 1))) (layW D p) (by omega)) lk_Do_140 [1, 2] (gdec_at D_Do_layOnce 23 rfl) (st := []) rfl rfl ⟨rfl, rfl⟩ (Nat.le_of_ble_eq_true rfl) rfl (by decide) rfl (Nat.le_of_ble_eq_true rfl) ⟨Nat.le_of_ble_eq_true rfl, Nat.le_of_ble_eq_true rfl⟩ ⟨Nat.le_of_ble_eq_true rfl, Nat.le_of_ble_eq_true rfl⟩ (gAft_r rfl rfl (h' := cDo 0 ((layX D p).1, dG D, dSz D, dC D, dSt D, dSh D, dCu D, dLa D, dSw D, dDy D, dDn D, dLt D, dLd D, dSo D)) (st' := [.int ((layX D p).2)]) (pc' := 42) (cs' := 0) (ss' := 0) rfl rfl rfl rfl rfl ?_)
  refine gW_b D_Do_layOnce 24 5 (pc' := 50) (l' := [(0, .ref 0), (1, .int (nI p)), (2, .int (nI (tnx (dG D (p * 5 + 1))))), (3, .int (layW D p)), (4, .int ((layX D p).2))]) (st' := [.int ((dSt D) 5)]) (h' := cDo 0 ((layX D p).1, dG D, dSz D, dC D, dSt D, dSh D, dCu D, dLa D, dSw D, dDy D, dDn D, dLt D, dLd D, dSo D)) (P := vp_in 5 6 ∧ True) rfl ⟨(gvl 5 6 (by omega) (by omega)), trivial⟩ ?_
  refine gW_if_le (gdec_at D_Do_layOnce 29 rfl) (tgt := 65) rfl (fun d => ?_) (fun d => ?_)
  · skip
    have hz : layB D p = 0 := if_pos d
    refine gW_b D_Do_layOnce 37 8 (pc' := 78) (l' := [(0, .ref 0), (1, .int (nI p)), (2, .int (nI (tnx (dG D (p * 5 + 1))))), (3, .int (layW D p)), (4, .int ((layX D p).2)), (5, .int 0)]) (st' := [.int (((layX D p).2) - 0), .int (nI p), .ref 3]) (h' := cDo 0 ((layX D p).1, dG D, dSz D, dC D, dSt D, dSh D, dCu D, dLa D, dSw D, dDy D, dDn D, dLt D, dLd D, dSo D)) (P := True) rfl trivial ?_
    refine gW_callV (m_lay (dG D) (dSz D) (dC D) p (((layX D p).2) - 0) (by omega) (by omega)) lk_Do_143 [3, 4] (gdec_at D_Do_layOnce 45 rfl) (st := []) rfl rfl ⟨rfl, rfl⟩ (Nat.le_of_ble_eq_true rfl) rfl (by decide) rfl (Nat.le_of_ble_eq_true rfl) ⟨Nat.le_of_ble_eq_true rfl, Nat.le_of_ble_eq_true rfl⟩ ⟨Nat.le_of_ble_eq_true rfl, Nat.le_of_ble_eq_true rfl⟩ (gAft_r rfl rfl (h' := cDo 0 ((layX D p).1, layF (dG D) p (((layX D p).2) - 0), dSz D, dC D, dSt D, dSh D, dCu D, dLa D, dSw D, dDy D, dDn D, dLt D, dLd D, dSo D)) (st' := []) (pc' := 81) (cs' := 0) (ss' := 0) rfl rfl rfl rfl rfl ?_)
    refine gW_b D_Do_layOnce 46 6 (pc' := 91) (l' := [(0, .ref 0), (1, .int (nI p)), (2, .int (nI (tnx (dG D (p * 5 + 1))))), (3, .int (layW D p)), (4, .int ((layX D p).2)), (5, .int 0)]) (st' := [.int (((layX D p).2) - 0), .int (nI (tnx (dG D (p * 5 + 1)))), .ref 8]) (h' := cDo 0 ((layX D p).1, layF (dG D) p (((layX D p).2) - 0), dSz D, dC D, dSt D, dSh D, dCu D, dLa D, dSw D, dDy D, dDn D, dLt D, dLd D, dSo D)) (P := True) rfl trivial ?_
    refine gW_callS (m_addAt 4 (tnx (dG D (p * 5 + 1))) (dLa D) (((layX D p).2) - 0) (by omega) (by omega)) lk_Do_84 [8] (gdec_at D_Do_layOnce 52 rfl) (st := []) rfl rfl ⟨rfl, rfl⟩ (Nat.le_of_ble_eq_true rfl) (Nat.le_of_ble_eq_true rfl) ⟨Nat.le_of_ble_eq_true rfl, Nat.le_of_ble_eq_true rfl⟩ ⟨Nat.le_of_ble_eq_true rfl, Nat.le_of_ble_eq_true rfl⟩ (gAft_r rfl rfl (h' := cDo 0 ((layX D p).1, layF (dG D) p (((layX D p).2) - 0), dSz D, dC D, dSt D, dSh D, dCu D, upd (dLa D) (tnx (dG D (p * 5 + 1))) (((dLa D) (tnx (dG D (p * 5 + 1)))) + (((layX D p).2) - 0)), dSw D, dDy D, dDn D, dLt D, dLd D, dSo D)) (st' := []) (pc' := 94) (cs' := 0) (ss' := 0) rfl rfl rfl rfl rfl ?_)
    refine gW_b D_Do_layOnce 53 4 (pc' := 101) (l' := [(0, .ref 0), (1, .int (nI p)), (2, .int (nI (tnx (dG D (p * 5 + 1))))), (3, .int (layW D p)), (4, .int ((layX D p).2)), (5, .int 0)]) (st' := [.int 0, .int (nI (tnx (dG D (p * 5 + 1)))), .ref 9]) (h' := cDo 0 ((layX D p).1, layF (dG D) p (((layX D p).2) - 0), dSz D, dC D, dSt D, dSh D, dCu D, upd (dLa D) (tnx (dG D (p * 5 + 1))) (((dLa D) (tnx (dG D (p * 5 + 1)))) + (((layX D p).2) - 0)), dSw D, dDy D, dDn D, dLt D, dLd D, dSo D)) (P := True) rfl trivial ?_
    refine gW_callS (m_addAt 4 (tnx (dG D (p * 5 + 1))) (dSw D) 0 (by omega) (by omega)) lk_Do_84 [9] (gdec_at D_Do_layOnce 57 rfl) (st := []) rfl rfl ⟨rfl, rfl⟩ (Nat.le_of_ble_eq_true rfl) (Nat.le_of_ble_eq_true rfl) ⟨Nat.le_of_ble_eq_true rfl, Nat.le_of_ble_eq_true rfl⟩ ⟨Nat.le_of_ble_eq_true rfl, Nat.le_of_ble_eq_true rfl⟩ (gAft_r rfl rfl (h' := cDo 0 ((layX D p).1, layF (dG D) p (((layX D p).2) - 0), dSz D, dC D, dSt D, dSh D, dCu D, upd (dLa D) (tnx (dG D (p * 5 + 1))) (((dLa D) (tnx (dG D (p * 5 + 1)))) + (((layX D p).2) - 0)), upd (dSw D) (tnx (dG D (p * 5 + 1))) (((dSw D) (tnx (dG D (p * 5 + 1)))) + 0), dDy D, dDn D, dLt D, dLd D, dSo D)) (st' := []) (pc' := 104) (cs' := 0) (ss' := 0) rfl rfl rfl rfl rfl ?_)
    exact gW_vret (gdec_at D_Do_layOnce 58 rfl) rfl (Nat.le_of_ble_eq_true rfl) ⟨rfl, by rw [show layD D p = layD0 D p 0 from congrArg (layD0 D p) hz]; rfl⟩ (Nat.le_of_ble_eq_true rfl) (Nat.le_of_ble_eq_true rfl)
  · skip
    have hd := gdiv0 d
    have hz : layB D p = (layX D p).2 / dSt D 5 := if_neg d
    refine gW_b D_Do_layOnce 30 7 (pc' := 66) (l' := [(0, .ref 0), (1, .int (nI p)), (2, .int (nI (tnx (dG D (p * 5 + 1))))), (3, .int (layW D p)), (4, .int ((layX D p).2))]) (st' := [.int (((layX D p).2) / ((dSt D) 5))]) (h' := cDo 0 ((layX D p).1, dG D, dSz D, dC D, dSt D, dSh D, dCu D, dLa D, dSw D, dDy D, dDn D, dLt D, dLd D, dSo D)) (P := vp_in 5 6 ∧ ¬ ((dSt D) 5) = 0 ∧ True) rfl ⟨(gvl 5 6 (by omega) (by omega)), (by assumption), trivial⟩ ?_
    refine gW_b D_Do_layOnce 38 7 (pc' := 78) (l' := [(0, .ref 0), (1, .int (nI p)), (2, .int (nI (tnx (dG D (p * 5 + 1))))), (3, .int (layW D p)), (4, .int ((layX D p).2)), (5, .int (((layX D p).2) / ((dSt D) 5)))]) (st' := [.int (((layX D p).2) - (((layX D p).2) / ((dSt D) 5))), .int (nI p), .ref 3]) (h' := cDo 0 ((layX D p).1, dG D, dSz D, dC D, dSt D, dSh D, dCu D, dLa D, dSw D, dDy D, dDn D, dLt D, dLd D, dSo D)) (P := True) rfl trivial ?_
    refine gW_callV (m_lay (dG D) (dSz D) (dC D) p (((layX D p).2) - (((layX D p).2) / ((dSt D) 5))) (by omega) (by omega)) lk_Do_143 [3, 4] (gdec_at D_Do_layOnce 45 rfl) (st := []) rfl rfl ⟨rfl, rfl⟩ (Nat.le_of_ble_eq_true rfl) rfl (by decide) rfl (Nat.le_of_ble_eq_true rfl) ⟨Nat.le_of_ble_eq_true rfl, Nat.le_of_ble_eq_true rfl⟩ ⟨Nat.le_of_ble_eq_true rfl, Nat.le_of_ble_eq_true rfl⟩ (gAft_r rfl rfl (h' := cDo 0 ((layX D p).1, layF (dG D) p (((layX D p).2) - (((layX D p).2) / ((dSt D) 5))), dSz D, dC D, dSt D, dSh D, dCu D, dLa D, dSw D, dDy D, dDn D, dLt D, dLd D, dSo D)) (st' := []) (pc' := 81) (cs' := 0) (ss' := 0) rfl rfl rfl rfl rfl ?_)
    refine gW_b D_Do_layOnce 46 6 (pc' := 91) (l' := [(0, .ref 0), (1, .int (nI p)), (2, .int (nI (tnx (dG D (p * 5 + 1))))), (3, .int (layW D p)), (4, .int ((layX D p).2)), (5, .int (((layX D p).2) / ((dSt D) 5)))]) (st' := [.int (((layX D p).2) - (((layX D p).2) / ((dSt D) 5))), .int (nI (tnx (dG D (p * 5 + 1)))), .ref 8]) (h' := cDo 0 ((layX D p).1, layF (dG D) p (((layX D p).2) - (((layX D p).2) / ((dSt D) 5))), dSz D, dC D, dSt D, dSh D, dCu D, dLa D, dSw D, dDy D, dDn D, dLt D, dLd D, dSo D)) (P := True) rfl trivial ?_
    refine gW_callS (m_addAt 4 (tnx (dG D (p * 5 + 1))) (dLa D) (((layX D p).2) - (((layX D p).2) / ((dSt D) 5))) (by omega) (by omega)) lk_Do_84 [8] (gdec_at D_Do_layOnce 52 rfl) (st := []) rfl rfl ⟨rfl, rfl⟩ (Nat.le_of_ble_eq_true rfl) (Nat.le_of_ble_eq_true rfl) ⟨Nat.le_of_ble_eq_true rfl, Nat.le_of_ble_eq_true rfl⟩ ⟨Nat.le_of_ble_eq_true rfl, Nat.le_of_ble_eq_true rfl⟩ (gAft_r rfl rfl (h' := cDo 0 ((layX D p).1, layF (dG D) p (((layX D p).2) - (((layX D p).2) / ((dSt D) 5))), dSz D, dC D, dSt D, dSh D, dCu D, upd (dLa D) (tnx (dG D (p * 5 + 1))) (((dLa D) (tnx (dG D (p * 5 + 1)))) + (((layX D p).2) - (((layX D p).2) / ((dSt D) 5)))), dSw D, dDy D, dDn D, dLt D, dLd D, dSo D)) (st' := []) (pc' := 94) (cs' := 0) (ss' := 0) rfl rfl rfl rfl rfl ?_)
    refine gW_b D_Do_layOnce 53 4 (pc' := 101) (l' := [(0, .ref 0), (1, .int (nI p)), (2, .int (nI (tnx (dG D (p * 5 + 1))))), (3, .int (layW D p)), (4, .int ((layX D p).2)), (5, .int (((layX D p).2) / ((dSt D) 5)))]) (st' := [.int (((layX D p).2) / ((dSt D) 5)), .int (nI (tnx (dG D (p * 5 + 1)))), .ref 9]) (h' := cDo 0 ((layX D p).1, layF (dG D) p (((layX D p).2) - (((layX D p).2) / ((dSt D) 5))), dSz D, dC D, dSt D, dSh D, dCu D, upd (dLa D) (tnx (dG D (p * 5 + 1))) (((dLa D) (tnx (dG D (p * 5 + 1)))) + (((layX D p).2) - (((layX D p).2) / ((dSt D) 5)))), dSw D, dDy D, dDn D, dLt D, dLd D, dSo D)) (P := True) rfl trivial ?_
    refine gW_callS (m_addAt 4 (tnx (dG D (p * 5 + 1))) (dSw D) (((layX D p).2) / ((dSt D) 5)) (by omega) (by omega)) lk_Do_84 [9] (gdec_at D_Do_layOnce 57 rfl) (st := []) rfl rfl ⟨rfl, rfl⟩ (Nat.le_of_ble_eq_true rfl) (Nat.le_of_ble_eq_true rfl) ⟨Nat.le_of_ble_eq_true rfl, Nat.le_of_ble_eq_true rfl⟩ ⟨Nat.le_of_ble_eq_true rfl, Nat.le_of_ble_eq_true rfl⟩ (gAft_r rfl rfl (h' := cDo 0 ((layX D p).1, layF (dG D) p (((layX D p).2) - (((layX D p).2) / ((dSt D) 5))), dSz D, dC D, dSt D, dSh D, dCu D, upd (dLa D) (tnx (dG D (p * 5 + 1))) (((dLa D) (tnx (dG D (p * 5 + 1)))) + (((layX D p).2) - (((layX D p).2) / ((dSt D) 5)))), upd (dSw D) (tnx (dG D (p * 5 + 1))) (((dSw D) (tnx (dG D (p * 5 + 1)))) + (((layX D p).2) / ((dSt D) 5))), dDy D, dDn D, dLt D, dLd D, dSo D)) (st' := []) (pc' := 104) (cs' := 0) (ss' := 0) rfl rfl rfl rfl rfl ?_)
    exact gW_vret (gdec_at D_Do_layOnce 58 rfl) rfl (Nat.le_of_ble_eq_true rfl) ⟨rfl, by rw [show layD D p = layD0 D p ((layX D p).2 / dSt D 5) from congrArg (layD0 D p) hz]; rfl⟩ (Nat.le_of_ble_eq_true rfl) (Nat.le_of_ble_eq_true rfl)
def cdD (D : gDom) (v : Int32) : gDom := if v ≤ 0 then (dTr D, dG D, dSz D, dC D, dSt D, dSh D, dCu D, dLa D, dSw D, dDy D, dDn D + 1, dLt D, dLd D, dSo D) else (dTr D, dG D, dSz D, dC D, dSt D, dSh D, dCu D, dLa D, dSw D, dDy D, dDn D + 1, dLt D + 1, dLd D + v, dSo D)

theorem m_countDone (D : gDom) (v : Int32) : gM K_Do_countDone { frames := 0, locals := 0, cells := 0, slots := 0 } [.ref 0, .int v] (cDo 0 D) (gD (.inl none) (cDo 0 (cdD D v))) := by
  refine gM_of rfl rfl (Nat.le_of_ble_eq_true rfl) (fun sc => ?_)
  refine gW_b D_Do_countDone 0 7 (pc' := 11) (l' := [(0, .ref 0), (1, .int v)]) (st' := [.int v]) (h' := cDo 0 (dTr D, dG D, dSz D, dC D, dSt D, dSh D, dCu D, dLa D, dSw D, dDy D, (dDn D) + 1, dLt D, dLd D, dSo D)) (P := True) rfl trivial ?_
  refine gW_if_le (gdec_at D_Do_countDone 7 rfl) (tgt := 34) rfl (fun d => ?_) (fun d => ?_)
  · skip
    exact gW_vret (gdec_at D_Do_countDone 20 rfl) rfl (Nat.le_of_ble_eq_true rfl) ⟨rfl, by rw [show cdD D v = _ from if_pos d]⟩ (Nat.le_of_ble_eq_true rfl) (Nat.le_of_ble_eq_true rfl)
  · skip
    refine gW_b D_Do_countDone 8 12 (pc' := 34) (l' := [(0, .ref 0), (1, .int v)]) (st' := []) (h' := cDo 0 (dTr D, dG D, dSz D, dC D, dSt D, dSh D, dCu D, dLa D, dSw D, dDy D, (dDn D) + 1, (dLt D) + 1, (dLd D) + v, dSo D)) (P := True) rfl trivial ?_
    exact gW_vret (gdec_at D_Do_countDone 20 rfl) rfl (Nat.le_of_ble_eq_true rfl) ⟨rfl, by rw [show cdD D v = _ from if_neg d]⟩ (Nat.le_of_ble_eq_true rfl) (Nat.le_of_ble_eq_true rfl)
theorem cdD_1 (D : gDom) (v : Int32) : dG (cdD D v) = dG D ∧ dSz (cdD D v) = dSz D := by
  unfold cdD
  split <;> exact ⟨rfl, rfl⟩
def rmD (D : gDom) (p : Nat) : gDom := (dTr D, rmO (dG D) p (dSz D - 1 - p), dSz D - 1, D.2.2.2)
def dsS (D : gDom) (p : Nat) : gDom := if dG D (p * 5 + 2) = 0 then rmD (cdD D (dDy D - dG D (p * 5 + 3))) p else D
/-- the sections at places below p: those that want no more go -/
def dsR : Nat → gDom → gDom
  | 0, D => D
  | p + 1, D => dsR p (dsS D p)
def pm1 (p : Nat) : Int32 := nI p + (-1)
theorem pm1_s (p : Nat) : pm1 (p + 1) = nI p := pk_m1 p
theorem pm1_sub (p : Nat) : nI p - 1 = pm1 p := by
  unfold pm1
  rw [Int32.sub_eq_add_neg]
theorem l_dismissDone {sc : Nat × (Nat → Int32)} {n0 : Nat} {E : gO → gH → Prop} : ∀ (p : Nat) (D : gDom), p ≤ dSz D → dSz D ≤ 10 → (∀ v, gW K_Do_dismissDone sc { frames := 2, locals := 46, cells := 0, slots := 0 } n0 E 0 0 58 [(0, .ref 0), (1, .int v)] [] (cDo 0 (dsR p D))) → gW K_Do_dismissDone sc { frames := 2, locals := 46, cells := 0, slots := 0 } n0 E 0 0 10 [(0, .ref 0), (1, .int (pm1 p))] [] (cDo 0 D) := by
  intro p
  induction p with
  | zero =>
    intro D hp hs kk
    rw [show pm1 0 = (-1) from by decide]
    refine gW_b D_Do_dismissDone 6 1 (pc' := 11) (l' := [(0, .ref 0), (1, .int (-1))]) (st' := [.int (-1)]) (h' := cDo 0 D) (P := True) rfl trivial ?_
    refine gW_if_lt (gdec_at D_Do_dismissDone 7 rfl) (tgt := 58) rfl (fun _ => ?_) (fun cq => absurd (by decide) cq)
    exact kk _
  | succ p ih =>
    intro D hp hs kk
    rw [pm1_s p]
    refine gW_b D_Do_dismissDone 6 1 (pc' := 11) (l' := [(0, .ref 0), (1, .int (nI p))]) (st' := [.int (nI p)]) (h' := cDo 0 D) (P := True) rfl trivial ?_
    refine gW_if_lt (gdec_at D_Do_dismissDone 7 rfl) (tgt := 58) rfl (fun cq => absurd cq (nI_pos (n := p) (by omega))) (fun _ => ?_)
    refine gW_b D_Do_dismissDone 8 4 (pc' := 20) (l' := [(0, .ref 0), (1, .int (nI p))]) (st' := [.int 2, .int (nI p), .ref 3]) (h' := cDo 0 D) (P := True) rfl trivial ?_
    refine gW_callV (m_valueOf (dG D) (dSz D) (dC D) p 2 (by omega) (by omega) (by omega)) lk_Do_103 [3, 4] (gdec_at D_Do_dismissDone 12 rfl) (st := []) rfl rfl ⟨rfl, rfl⟩ (Nat.le_of_ble_eq_true rfl) rfl (by decide) rfl (Nat.le_of_ble_eq_true rfl) ⟨Nat.le_of_ble_eq_true rfl, Nat.le_of_ble_eq_true rfl⟩ ⟨Nat.le_of_ble_eq_true rfl, Nat.le_of_ble_eq_true rfl⟩ (gAft_r rfl rfl (h' := cDo 0 D) (st' := [.int ((dG D) (p * 5 + 2))]) (pc' := 23) (cs' := 0) (ss' := 0) rfl rfl rfl rfl rfl ?_)
    refine gW_if_ne (gdec_at D_Do_dismissDone 13 rfl) (tgt := 52) rfl (fun d => ?_) (fun d => ?_)
    · skip
      refine gW_b D_Do_dismissDone 28 2 (pc' := 10) (l' := [(0, .ref 0), (1, .int ((nI p) + (-1)))]) (st' := []) (h' := cDo 0 D) (P := True) rfl trivial ?_
      rw [show dsR (p + 1) D = dsR p D from congrArg (dsR p) (if_neg d)] at kk
      exact ih D (by omega) hs kk
    · skip
      refine gW_b D_Do_dismissDone 14 7 (pc' := 37) (l' := [(0, .ref 0), (1, .int (nI p))]) (st' := [.int 3, .int (nI p), .ref 3, .int (dDy D), .ref 0]) (h' := cDo 0 D) (P := True) rfl trivial ?_
      refine gW_callV (m_valueOf (dG D) (dSz D) (dC D) p 3 (by omega) (by omega) (by omega)) lk_Do_103 [3, 4] (gdec_at D_Do_dismissDone 21 rfl) (st := [.int (dDy D), .ref 0]) rfl rfl ⟨rfl, rfl⟩ (Nat.le_of_ble_eq_true rfl) rfl (by decide) rfl (Nat.le_of_ble_eq_true rfl) ⟨Nat.le_of_ble_eq_true rfl, Nat.le_of_ble_eq_true rfl⟩ ⟨Nat.le_of_ble_eq_true rfl, Nat.le_of_ble_eq_true rfl⟩ (gAft_r rfl rfl (h' := cDo 0 D) (st' := [.int ((dG D) (p * 5 + 3)), .int (dDy D), .ref 0]) (pc' := 40) (cs' := 0) (ss' := 0) rfl rfl rfl rfl rfl ?_)
      refine gW_b D_Do_dismissDone 22 1 (pc' := 41) (l' := [(0, .ref 0), (1, .int (nI p))]) (st' := [.int ((dDy D) - ((dG D) (p * 5 + 3))), .ref 0]) (h' := cDo 0 D) (P := True) rfl trivial ?_
      refine gW_callV (m_countDone D ((dDy D) - ((dG D) (p * 5 + 3)))) lk_Do_146 [0, 1, 2, 3, 4, 5, 6, 7, 8, 9] (gdec_at D_Do_dismissDone 23 rfl) (st := []) rfl rfl ⟨rfl, rfl⟩ (Nat.le_of_ble_eq_true rfl) rfl (by decide) rfl (Nat.le_of_ble_eq_true rfl) ⟨Nat.le_of_ble_eq_true rfl, Nat.le_of_ble_eq_true rfl⟩ ⟨Nat.le_of_ble_eq_true rfl, Nat.le_of_ble_eq_true rfl⟩ (gAft_r rfl rfl (h' := cDo 0 (cdD D ((dDy D) - ((dG D) (p * 5 + 3))))) (st' := []) (pc' := 44) (cs' := 0) (ss' := 0) rfl rfl rfl rfl rfl ?_)
      have h1 := (cdD_1 D (dDy D - dG D (p * 5 + 3))).2
      refine gW_b D_Do_dismissDone 24 3 (pc' := 49) (l' := [(0, .ref 0), (1, .int (nI p))]) (st' := [.int (nI p), .ref 3]) (h' := cDo 0 (cdD D ((dDy D) - ((dG D) (p * 5 + 3))))) (P := True) rfl trivial ?_
      refine gW_callV (m_remove (dG (cdD D ((dDy D) - ((dG D) (p * 5 + 3))))) (dSz (cdD D ((dDy D) - ((dG D) (p * 5 + 3))))) (dC (cdD D ((dDy D) - ((dG D) (p * 5 + 3))))) p (by omega) (by omega)) lk_Do_106 [3, 4] (gdec_at D_Do_dismissDone 27 rfl) (st := []) rfl rfl ⟨rfl, rfl⟩ (Nat.le_of_ble_eq_true rfl) rfl (by decide) rfl (Nat.le_of_ble_eq_true rfl) ⟨Nat.le_of_ble_eq_true rfl, Nat.le_of_ble_eq_true rfl⟩ ⟨Nat.le_of_ble_eq_true rfl, Nat.le_of_ble_eq_true rfl⟩ (gAft_r rfl rfl (h' := cDo 0 (dTr (cdD D ((dDy D) - ((dG D) (p * 5 + 3)))), rmO (dG (cdD D ((dDy D) - ((dG D) (p * 5 + 3))))) p ((dSz (cdD D ((dDy D) - ((dG D) (p * 5 + 3))))) - 1 - p), (dSz (cdD D ((dDy D) - ((dG D) (p * 5 + 3))))) - 1, dC (cdD D ((dDy D) - ((dG D) (p * 5 + 3)))), dSt (cdD D ((dDy D) - ((dG D) (p * 5 + 3)))), dSh (cdD D ((dDy D) - ((dG D) (p * 5 + 3)))), dCu (cdD D ((dDy D) - ((dG D) (p * 5 + 3)))), dLa (cdD D ((dDy D) - ((dG D) (p * 5 + 3)))), dSw (cdD D ((dDy D) - ((dG D) (p * 5 + 3)))), dDy (cdD D ((dDy D) - ((dG D) (p * 5 + 3)))), dDn (cdD D ((dDy D) - ((dG D) (p * 5 + 3)))), dLt (cdD D ((dDy D) - ((dG D) (p * 5 + 3)))), dLd (cdD D ((dDy D) - ((dG D) (p * 5 + 3)))), dSo (cdD D ((dDy D) - ((dG D) (p * 5 + 3)))))) (st' := []) (pc' := 52) (cs' := 0) (ss' := 0) rfl rfl rfl rfl rfl ?_)
      refine gW_b D_Do_dismissDone 28 2 (pc' := 10) (l' := [(0, .ref 0), (1, .int ((nI p) + (-1)))]) (st' := []) (h' := cDo 0 (dTr (cdD D ((dDy D) - ((dG D) (p * 5 + 3)))), rmO (dG (cdD D ((dDy D) - ((dG D) (p * 5 + 3))))) p ((dSz (cdD D ((dDy D) - ((dG D) (p * 5 + 3))))) - 1 - p), (dSz (cdD D ((dDy D) - ((dG D) (p * 5 + 3))))) - 1, dC (cdD D ((dDy D) - ((dG D) (p * 5 + 3)))), dSt (cdD D ((dDy D) - ((dG D) (p * 5 + 3)))), dSh (cdD D ((dDy D) - ((dG D) (p * 5 + 3)))), dCu (cdD D ((dDy D) - ((dG D) (p * 5 + 3)))), dLa (cdD D ((dDy D) - ((dG D) (p * 5 + 3)))), dSw (cdD D ((dDy D) - ((dG D) (p * 5 + 3)))), dDy (cdD D ((dDy D) - ((dG D) (p * 5 + 3)))), dDn (cdD D ((dDy D) - ((dG D) (p * 5 + 3)))), dLt (cdD D ((dDy D) - ((dG D) (p * 5 + 3)))), dLd (cdD D ((dDy D) - ((dG D) (p * 5 + 3)))), dSo (cdD D ((dDy D) - ((dG D) (p * 5 + 3)))))) (P := True) rfl trivial ?_
      rw [show dsR (p + 1) D = dsR p (rmD (cdD D (dDy D - dG D (p * 5 + 3))) p) from congrArg (dsR p) (if_pos d)] at kk
      exact ih (rmD (cdD D (dDy D - dG D (p * 5 + 3))) p) (by show p ≤ dSz (cdD D (dDy D - dG D (p * 5 + 3))) - 1; omega) (by show dSz (cdD D (dDy D - dG D (p * 5 + 3))) - 1 ≤ 10; omega) kk
theorem m_dismissDone (D : gDom) (hs : dSz D ≤ 10) : gM K_Do_dismissDone { frames := 2, locals := 46, cells := 0, slots := 0 } [.ref 0] (cDo 0 D) (gD (.inl none) (cDo 0 (dsR (dSz D) D))) := by
  refine gM_of rfl rfl (Nat.le_of_ble_eq_true rfl) (fun sc => ?_)
  refine gW_b D_Do_dismissDone 0 6 (pc' := 10) (l' := [(0, .ref 0), (1, .int ((nI (dSz D)) - 1))]) (st' := []) (h' := cDo 0 D) (P := True) rfl trivial ?_
  rw [pm1_sub]
  refine l_dismissDone (dSz D) D (Nat.le_refl _) hs (fun v => ?_)
  exact gW_vret (gdec_at D_Do_dismissDone 30 rfl) rfl (Nat.le_of_ble_eq_true rfl) ⟨rfl, rfl⟩ (Nat.le_of_ble_eq_true rfl) (Nat.le_of_ble_eq_true rfl)
def msR (D : gDom) (t : Nat) : Nat → Int32
  | 0 => -(dSh D t) * dSt D 0 - hO (dTr D) t
  | i + 1 => if dG D (i * 5 + 1) = nI t then msR D t i + tkn (dSt D 5) (dG D (i * 5 + 2)) else msR D t i
def msI (D : gDom) (t : Nat) : Int32 := if msR D t (dSz D) < 1 then 0 else if dSt D 0 < 1 then 0 else (msR D t (dSz D) + dSt D 0 - 1) / dSt D 0
theorem l_missingSheets (D : gDom) (t : Nat) (ht : t < 4) (hs : dSz D ≤ 10) {sc : Nat × (Nat → Int32)} {n0 : Nat} {E : gO → gH → Prop} (kk : gW K_Do_missingSheets sc { frames := 2, locals := 46, cells := 0, slots := 0 } n0 E 0 0 80 [(0, .ref 0), (1, .int (nI t)), (2, .int ((dSt D) 0)), (3, .int (msR D t (dSz D))), (4, .int (nI (dSz D)))] [] (cDo 0 D)) : ∀ (n i : Nat), i + n = dSz D → gW K_Do_missingSheets sc { frames := 2, locals := 46, cells := 0, slots := 0 } n0 E 0 0 31 [(0, .ref 0), (1, .int (nI t)), (2, .int ((dSt D) 0)), (3, .int (msR D t i)), (4, .int (nI i))] [] (cDo 0 D) := by
  intro n
  induction n with
  | zero =>
    intro i hi
    obtain rfl : dSz D = i := by omega
    refine gW_b D_Do_missingSheets 20 4 (pc' := 40) (l' := [(0, .ref 0), (1, .int (nI t)), (2, .int ((dSt D) 0)), (3, .int (msR D t (dSz D))), (4, .int (nI (dSz D)))]) (st' := [.int (nI (dSz D)), .int (nI (dSz D))]) (h' := cDo 0 D) (P := True) rfl trivial ?_
    refine gW_ic_ge (gdec_at D_Do_missingSheets 24 rfl) (tgt := 80) rfl (fun _ => ?_) (fun cq => absurd ((gle (rfl : nI (dSz D) = nI (dSz D)) (rfl : nI (dSz D) = nI (dSz D)) (by omega) (by omega)).mpr (by omega)) cq)
    exact kk
  | succ n ih =>
    intro i hi
    refine gW_b D_Do_missingSheets 20 4 (pc' := 40) (l' := [(0, .ref 0), (1, .int (nI t)), (2, .int ((dSt D) 0)), (3, .int (msR D t i)), (4, .int (nI i))]) (st' := [.int (nI (dSz D)), .int (nI i)]) (h' := cDo 0 D) (P := True) rfl trivial ?_
    refine gW_ic_ge (gdec_at D_Do_missingSheets 24 rfl) (tgt := 80) rfl (fun cq => absurd cq (mt (gle (rfl : nI (dSz D) = nI (dSz D)) (rfl : nI i = nI i) (by omega) (by omega)).mp (by omega))) (fun _ => ?_)
    refine gW_b D_Do_missingSheets 25 4 (pc' := 50) (l' := [(0, .ref 0), (1, .int (nI t)), (2, .int ((dSt D) 0)), (3, .int (msR D t i)), (4, .int (nI i))]) (st' := [.int 1, .int (nI i), .ref 3]) (h' := cDo 0 D) (P := True) rfl trivial ?_
    refine gW_callV (m_valueOf (dG D) (dSz D) (dC D) i 1 (by omega) (by omega) (by omega)) lk_Do_103 [3, 4] (gdec_at D_Do_missingSheets 29 rfl) (st := []) rfl rfl ⟨rfl, rfl⟩ (Nat.le_of_ble_eq_true rfl) rfl (by decide) rfl (Nat.le_of_ble_eq_true rfl) ⟨Nat.le_of_ble_eq_true rfl, Nat.le_of_ble_eq_true rfl⟩ ⟨Nat.le_of_ble_eq_true rfl, Nat.le_of_ble_eq_true rfl⟩ (gAft_r rfl rfl (h' := cDo 0 D) (st' := [.int ((dG D) (i * 5 + 1))]) (pc' := 53) (cs' := 0) (ss' := 0) rfl rfl rfl rfl rfl ?_)
    refine gW_b D_Do_missingSheets 30 1 (pc' := 54) (l' := [(0, .ref 0), (1, .int (nI t)), (2, .int ((dSt D) 0)), (3, .int (msR D t i)), (4, .int (nI i))]) (st' := [.int (nI t), .int ((dG D) (i * 5 + 1))]) (h' := cDo 0 D) (P := True) rfl trivial ?_
    refine gW_ic_ne (gdec_at D_Do_missingSheets 31 rfl) (tgt := 74) rfl (fun d => ?_) (fun d => ?_)
    · skip
      refine gW_b D_Do_missingSheets 42 2 (pc' := 31) (l' := [(0, .ref 0), (1, .int (nI t)), (2, .int ((dSt D) 0)), (3, .int (msR D t i)), (4, .int ((nI i) + 1))]) (st' := []) (h' := cDo 0 D) (P := True) rfl trivial ?_
      rw [show ((nI i) + 1 : Int32) = nI (i + 1) from (gadd (rfl : nI i = nI i) (gk 1))]
      rw [show msR D t i = msR D t (i + 1) from (if_neg d).symm]
      exact ih (i + 1) (by omega)
    · skip
      refine gW_b D_Do_missingSheets 32 6 (pc' := 66) (l' := [(0, .ref 0), (1, .int (nI t)), (2, .int ((dSt D) 0)), (3, .int (msR D t i)), (4, .int (nI i))]) (st' := [.int 2, .int (nI i), .ref 3, .ref 0, .int (msR D t i)]) (h' := cDo 0 D) (P := True) rfl trivial ?_
      refine gW_callV (m_valueOf (dG D) (dSz D) (dC D) i 2 (by omega) (by omega) (by omega)) lk_Do_103 [3, 4] (gdec_at D_Do_missingSheets 38 rfl) (st := [.ref 0, .int (msR D t i)]) rfl rfl ⟨rfl, rfl⟩ (Nat.le_of_ble_eq_true rfl) rfl (by decide) rfl (Nat.le_of_ble_eq_true rfl) ⟨Nat.le_of_ble_eq_true rfl, Nat.le_of_ble_eq_true rfl⟩ ⟨Nat.le_of_ble_eq_true rfl, Nat.le_of_ble_eq_true rfl⟩ (gAft_r rfl rfl (h' := cDo 0 D) (st' := [.int ((dG D) (i * 5 + 2)), .ref 0, .int (msR D t i)]) (pc' := 69) (cs' := 0) (ss' := 0) rfl rfl rfl rfl rfl ?_)
      refine gW_callV (m_takenFor D ((dG D) (i * 5 + 2))) lk_Do_137 [0, 1, 2, 3, 4, 5, 6, 7, 8, 9] (gdec_at D_Do_missingSheets 39 rfl) (st := [.int (msR D t i)]) rfl rfl ⟨rfl, rfl⟩ (Nat.le_of_ble_eq_true rfl) rfl (by decide) rfl (Nat.le_of_ble_eq_true rfl) ⟨Nat.le_of_ble_eq_true rfl, Nat.le_of_ble_eq_true rfl⟩ ⟨Nat.le_of_ble_eq_true rfl, Nat.le_of_ble_eq_true rfl⟩ (gAft_r rfl rfl (h' := cDo 0 D) (st' := [.int (tkn ((dSt D) 5) ((dG D) (i * 5 + 2))), .int (msR D t i)]) (pc' := 72) (cs' := 0) (ss' := 0) rfl rfl rfl rfl rfl ?_)
      refine gW_b D_Do_missingSheets 40 4 (pc' := 31) (l' := [(0, .ref 0), (1, .int (nI t)), (2, .int ((dSt D) 0)), (3, .int ((msR D t i) + (tkn ((dSt D) 5) ((dG D) (i * 5 + 2))))), (4, .int ((nI i) + 1))]) (st' := []) (h' := cDo 0 D) (P := True) rfl trivial ?_
      rw [show ((nI i) + 1 : Int32) = nI (i + 1) from (gadd (rfl : nI i = nI i) (gk 1))]
      rw [show msR D t i + tkn (dSt D 5) (dG D (i * 5 + 2)) = msR D t (i + 1) from (if_pos d).symm]
      exact ih (i + 1) (by omega)
theorem m_missingSheets (D : gDom) (t : Nat) (ht : t < 4) (hs : dSz D ≤ 10) : gM K_Do_missingSheets { frames := 2, locals := 46, cells := 0, slots := 0 } [.ref 0, .int (nI t)] (cDo 0 D) (gD (.inl (some (.int (msI D t)))) (cDo 0 D)) := by
  refine gM_of rfl rfl (Nat.le_of_ble_eq_true rfl) (fun sc => ?_)
  refine gW_b D_Do_missingSheets 0 8 (pc' := 12) (l' := [(0, .ref 0), (1, .int (nI t)), (2, .int ((dSt D) 0))]) (st' := [.int (nI t), .ref 6]) (h' := cDo 0 D) (P := vp_in 0 6 ∧ True) rfl ⟨(gvl 0 6 (by omega) (by omega)), trivial⟩ ?_
  refine gW_callS (m_valueAt 4 t (dSh D) (by omega) (by omega)) lk_Do_109 [6] (gdec_at D_Do_missingSheets 8 rfl) (st := []) rfl rfl ⟨rfl, rfl⟩ (Nat.le_of_ble_eq_true rfl) (Nat.le_of_ble_eq_true rfl) ⟨Nat.le_of_ble_eq_true rfl, Nat.le_of_ble_eq_true rfl⟩ ⟨Nat.le_of_ble_eq_true rfl, Nat.le_of_ble_eq_true rfl⟩ (gAft_r rfl rfl (h' := cDo 0 D) (st' := [.int ((dSh D) t)]) (pc' := 15) (cs' := 0) (ss' := 0) rfl rfl rfl rfl rfl ?_)
  refine gW_b D_Do_missingSheets 9 6 (pc' := 23) (l' := [(0, .ref 0), (1, .int (nI t)), (2, .int ((dSt D) 0))]) (st' := [.int (nI t), .ref 1, .int ((-((dSh D) t)) * ((dSt D) 0))]) (h' := cDo 0 D) (P := True) rfl trivial ?_
  refine gW_callV (m_heldOf (dTr D) t (by omega)) lk_Do_149 [1, 2] (gdec_at D_Do_missingSheets 15 rfl) (st := [.int ((-((dSh D) t)) * ((dSt D) 0))]) rfl rfl ⟨rfl, rfl⟩ (Nat.le_of_ble_eq_true rfl) rfl (by decide) rfl (Nat.le_of_ble_eq_true rfl) ⟨Nat.le_of_ble_eq_true rfl, Nat.le_of_ble_eq_true rfl⟩ ⟨Nat.le_of_ble_eq_true rfl, Nat.le_of_ble_eq_true rfl⟩ (gAft_r rfl rfl (h' := cDo 0 D) (st' := [.int (hO (dTr D) t), .int ((-((dSh D) t)) * ((dSt D) 0))]) (pc' := 26) (cs' := 0) (ss' := 0) rfl rfl rfl rfl rfl ?_)
  refine gW_b D_Do_missingSheets 16 4 (pc' := 31) (l' := [(0, .ref 0), (1, .int (nI t)), (2, .int ((dSt D) 0)), (3, .int (((-((dSh D) t)) * ((dSt D) 0)) - (hO (dTr D) t))), (4, .int 0)]) (st' := []) (h' := cDo 0 D) (P := True) rfl trivial ?_
  refine l_missingSheets D t ht hs ?_ (dSz D) 0 (Nat.zero_add _)
  refine gW_b D_Do_missingSheets 44 2 (pc' := 82) (l' := [(0, .ref 0), (1, .int (nI t)), (2, .int ((dSt D) 0)), (3, .int (msR D t (dSz D))), (4, .int (nI (dSz D)))]) (st' := [.int 1, .int (msR D t (dSz D))]) (h' := cDo 0 D) (P := True) rfl trivial ?_
  refine gW_ic_lt (gdec_at D_Do_missingSheets 46 rfl) (tgt := 90) rfl (fun d => ?_) (fun d => ?_)
  · skip
    refine gW_b D_Do_missingSheets 50 2 (pc' := 101) (l' := [(0, .ref 0), (1, .int (nI t)), (2, .int ((dSt D) 0)), (3, .int (msR D t (dSz D))), (4, .int (nI (dSz D)))]) (st' := [.int 0]) (h' := cDo 0 D) (P := True) rfl trivial ?_
    rw [show msI D t = 0 from if_pos d]
    exact gW_iret (gdec_at D_Do_missingSheets 59 rfl) rfl rfl (Nat.le_of_ble_eq_true rfl) ⟨rfl, rfl⟩ (Nat.le_of_ble_eq_true rfl) (Nat.le_of_ble_eq_true rfl)
  · skip
    refine gW_b D_Do_missingSheets 47 2 (pc' := 87) (l' := [(0, .ref 0), (1, .int (nI t)), (2, .int ((dSt D) 0)), (3, .int (msR D t (dSz D))), (4, .int (nI (dSz D)))]) (st' := [.int 1, .int ((dSt D) 0)]) (h' := cDo 0 D) (P := True) rfl trivial ?_
    refine gW_ic_ge (gdec_at D_Do_missingSheets 49 rfl) (tgt := 94) rfl (fun e => ?_) (fun e => ?_)
    · skip
      have hd := gdiv1 (Int32.not_lt.mpr e)
      refine gW_b D_Do_missingSheets 52 7 (pc' := 101) (l' := [(0, .ref 0), (1, .int (nI t)), (2, .int ((dSt D) 0)), (3, .int (msR D t (dSz D))), (4, .int (nI (dSz D)))]) (st' := [.int ((((msR D t (dSz D)) + ((dSt D) 0)) - 1) / ((dSt D) 0))]) (h' := cDo 0 D) (P := ¬ ((dSt D) 0) = 0 ∧ True) rfl ⟨(by assumption), trivial⟩ ?_
      exact gW_iret (gdec_at D_Do_missingSheets 59 rfl) rfl rfl (Nat.le_of_ble_eq_true rfl) ⟨by rw [show msI D t = _ from (if_neg d).trans (if_neg (Int32.not_lt.mpr e))], rfl⟩ (Nat.le_of_ble_eq_true rfl) (Nat.le_of_ble_eq_true rfl)
    · skip
      refine gW_b D_Do_missingSheets 50 2 (pc' := 101) (l' := [(0, .ref 0), (1, .int (nI t)), (2, .int ((dSt D) 0)), (3, .int (msR D t (dSz D))), (4, .int (nI (dSz D)))]) (st' := [.int 0]) (h' := cDo 0 D) (P := True) rfl trivial ?_
      exact gW_iret (gdec_at D_Do_missingSheets 59 rfl) rfl rfl (Nat.le_of_ble_eq_true rfl) ⟨by rw [show msI D t = 0 from (if_neg d).trans (if_pos (Int32.not_le.mp e))], rfl⟩ (Nat.le_of_ble_eq_true rfl) (Nat.le_of_ble_eq_true rfl)
def p1 (r : Int32) : Nat → Nat → (Nat → Int32) → Int32 → Nat → (Nat → Int32) × Int32 × Nat
  | 0, _, f, so, s => (f, so, s)
  | n + 1, i, f, so, s => if s = 0 then (f, so, s) else if tn f i ≤ 1 then p1 r n (i + 1) f so s else p1 r n (i + 1) (soR i (moc f i 3) r f 4) (so + 1) (s - 1)
/-- s setters work on the section at place p -/
def wl (p : Nat) : Nat → gDom → gDom × Nat
  | 0, D => (D, 0)
  | s + 1, D => if clb D p = true then wl p s (layD D p) else (D, s + 1)
def p2 : Nat → Nat → gDom → Nat → gDom × Nat
  | 0, _, D, s => (D, s)
  | n + 1, i, D, s => p2 n (i + 1) (wl i s D).1 (wl i s D).2
def setTS (D : gDom) (f : Nat → Int32) (so : Int32) : gDom := (f, dG D, dSz D, dC D, dSt D, dSh D, dCu D, dLa D, dSw D, dDy D, dDn D, dLt D, dLd D, so)
def arD (D : gDom) : gDom := (dTr D, arrO (keyOf (dSt D 2)) (dG D) (dSz D - 1), dSz D, dC D, dSt D, dSh D, dCu D, dLa D, dSw D, dDy D + 1, dDn D, dLt D, dLd D, dSo D)
def pdA (D : gDom) : (Nat → Int32) × Int32 × Nat := p1 (dSt D 1) 6 0 (dTr D) (dSo D) (tnx (dSt D 3))
def pdB (D : gDom) : gDom × Nat := p2 (dSz D) 0 (setTS D (pdA D).1 (pdA D).2.1) (pdA D).2.2
/-- a day -/
def pdD (D : gDom) : gDom := arD (dsR (dSz (pdB D).1) (pdB D).1)
theorem p1_le (r : Int32) : ∀ (n i : Nat) (f : Nat → Int32) (so : Int32) (s : Nat), (p1 r n i f so s).2.2 ≤ s
  | 0, _, _, _, s => Nat.le_refl s
  | n + 1, i, f, so, s => by
    unfold p1
    split
    · exact Nat.le_refl s
    · split
      · exact p1_le r n _ _ _ _
      · exact Nat.le_trans (p1_le r n _ _ _ _) (Nat.sub_le s 1)
theorem layF_1 (g : Nat → Int32) (p : Nat) (v : Int32) (q : Nat) : layF g p v (q * 5 + 1) = g (q * 5 + 1) := by
  unfold layF upd
  rw [if_neg (by omega), if_neg (by omega)]
theorem dOK_lay {D : gDom} {p : Nat} (h : dOK D) : dOK (layD D p) := by
  refine ⟨h.1, fun q hq => ?_⟩
  show okT (layF (dG D) p _ (q * 5 + 1))
  rw [layF_1]
  exact h.2 q hq
theorem wl_ok (p : Nat) : ∀ (s : Nat) (D : gDom), dOK D → dOK (wl p s D).1 ∧ dSz (wl p s D).1 = dSz D ∧ (wl p s D).2 ≤ s
  | 0, D, h => ⟨h, rfl, Nat.le_refl 0⟩
  | s + 1, D, h => by
    unfold wl
    split
    · have := wl_ok p s (layD D p) (dOK_lay h)
      exact ⟨this.1, this.2.1, Nat.le_succ_of_le this.2.2⟩
    · exact ⟨h, rfl, Nat.le_refl _⟩
theorem p2_ok : ∀ (n i : Nat) (D : gDom) (s : Nat), dOK D → dOK (p2 n i D s).1 ∧ dSz (p2 n i D s).1 = dSz D
  | 0, _, D, s, h => ⟨h, rfl⟩
  | n + 1, i, D, s, h => by
    obtain ⟨h1, h2, -⟩ := wl_ok i s D h
    have := p2_ok n (i + 1) (wl i s D).1 (wl i s D).2 h1
    exact ⟨this.1, this.2.trans h2⟩
theorem dsS_le (D : gDom) (p : Nat) : dSz (dsS D p) ≤ dSz D := by
  unfold dsS
  split
  · show dSz (cdD D _) - 1 ≤ _
    rw [(cdD_1 D _).2]
    omega
  · exact Nat.le_refl _
theorem dsR_le : ∀ (p : Nat) (D : gDom), dSz (dsR p D) ≤ dSz D
  | 0, _ => Nat.le_refl _
  | p + 1, D => Nat.le_trans (dsR_le p (dsS D p)) (dsS_le D p)
theorem setTS_ok {D : gDom} {f : Nat → Int32} {so : Int32} (h : dOK D) : dOK (setTS D f so) := ⟨h.1, h.2⟩
theorem l_passDay1 (D : gDom) {sc : Nat × (Nat → Int32)} {n0 : Nat} {E : gO → gH → Prop} : ∀ (n i : Nat) (f : Nat → Int32) (so : Int32) (s : Nat), i + n = 6 → s ≤ 9 → (gW K_Do_passDay sc { frames := 3, locals := 73, cells := 0, slots := 0 } n0 E 0 0 64 [(0, .ref 0), (1, .int (nI ((p1 (dSt D 1) n i f so s).2.2)))] [] (cDo 0 ((p1 (dSt D 1) n i f so s).1, dG D, dSz D, dC D, dSt D, dSh D, dCu D, dLa D, dSw D, dDy D, dDn D, dLt D, dLd D, (p1 (dSt D 1) n i f so s).2.1))) → gW K_Do_passDay sc { frames := 3, locals := 73, cells := 0, slots := 0 } n0 E 0 0 9 [(0, .ref 0), (1, .int (nI s)), (2, .int (nI i))] [] (cDo 0 (f, dG D, dSz D, dC D, dSt D, dSh D, dCu D, dLa D, dSw D, dDy D, dDn D, dLt D, dLd D, so)) := by
  intro n
  induction n with
  | zero =>
    intro i f so s hi hs kk
    obtain rfl : 6 = i := by omega
    refine gW_b D_Do_passDay 7 2 (pc' := 12) (l' := [(0, .ref 0), (1, .int (nI s)), (2, .int (nI 6))]) (st' := [.int 6, .int (nI 6)]) (h' := cDo 0 (f, dG D, dSz D, dC D, dSt D, dSh D, dCu D, dLa D, dSw D, dDy D, dDn D, dLt D, dLd D, so)) (P := True) rfl trivial ?_
    refine gW_ic_ge (gdec_at D_Do_passDay 9 rfl) (tgt := 64) rfl (fun _ => ?_) (fun cq => absurd ((gle (gk 6) (rfl : nI 6 = nI 6) (by omega) (by omega)).mpr (by omega)) cq)
    refine gW_l [0, 1] (l' := [(0, .ref 0), (1, .int (nI s))]) rfl ?_
    exact kk
  | succ n ih =>
    intro i f so s hi hs kk
    have hb2 := tn_le f i
    refine gW_b D_Do_passDay 7 2 (pc' := 12) (l' := [(0, .ref 0), (1, .int (nI s)), (2, .int (nI i))]) (st' := [.int 6, .int (nI i)]) (h' := cDo 0 (f, dG D, dSz D, dC D, dSt D, dSh D, dCu D, dLa D, dSw D, dDy D, dDn D, dLt D, dLd D, so)) (P := True) rfl trivial ?_
    refine gW_ic_ge (gdec_at D_Do_passDay 9 rfl) (tgt := 64) rfl (fun cq => absurd cq (mt (gle (gk 6) (rfl : nI i = nI i) (by omega) (by omega)).mp (by omega))) (fun _ => ?_)
    refine gW_b D_Do_passDay 10 1 (pc' := 16) (l' := [(0, .ref 0), (1, .int (nI s)), (2, .int (nI i))]) (st' := [.int (nI s)]) (h' := cDo 0 (f, dG D, dSz D, dC D, dSt D, dSh D, dCu D, dLa D, dSw D, dDy D, dDn D, dLt D, dLd D, so)) (P := True) rfl trivial ?_
    refine gW_if_le (gdec_at D_Do_passDay 11 rfl) (tgt := 64) rfl (fun d => ?_) (fun d => ?_)
    · have d := (gle (rfl : nI s = nI s) (gk 0) (by omega) (by omega)).mp d
      rw [show p1 (dSt D 1) (n + 1) i f so s = (f, so, s) from if_pos (by omega)] at kk
      refine gW_l [0, 1] (l' := [(0, .ref 0), (1, .int (nI s))]) rfl ?_
      exact kk
    · have d := mt (gle (rfl : nI s = nI s) (gk 0) (by omega) (by omega)).mpr d
      have d1 : ¬ s = 0 := by omega
      refine gW_b D_Do_passDay 12 3 (pc' := 24) (l' := [(0, .ref 0), (1, .int (nI s)), (2, .int (nI i))]) (st' := [.int (nI i), .ref 1]) (h' := cDo 0 (f, dG D, dSz D, dC D, dSt D, dSh D, dCu D, dLa D, dSw D, dDy D, dDn D, dLt D, dLd D, so)) (P := True) rfl trivial ?_
      refine gW_callV (m_tonesIn f i (by omega)) lk_Do_113 [1, 2] (gdec_at D_Do_passDay 15 rfl) (st := []) rfl rfl ⟨rfl, rfl⟩ (Nat.le_of_ble_eq_true rfl) rfl (by decide) rfl (Nat.le_of_ble_eq_true rfl) ⟨Nat.le_of_ble_eq_true rfl, Nat.le_of_ble_eq_true rfl⟩ ⟨Nat.le_of_ble_eq_true rfl, Nat.le_of_ble_eq_true rfl⟩ (gAft_r rfl rfl (h' := cDo 0 (f, dG D, dSz D, dC D, dSt D, dSh D, dCu D, dLa D, dSw D, dDy D, dDn D, dLt D, dLd D, so)) (st' := [.int (nI (tn f i))]) (pc' := 27) (cs' := 0) (ss' := 0) rfl rfl rfl rfl rfl ?_)
      refine gW_b D_Do_passDay 16 1 (pc' := 28) (l' := [(0, .ref 0), (1, .int (nI s)), (2, .int (nI i))]) (st' := [.int 1, .int (nI (tn f i))]) (h' := cDo 0 (f, dG D, dSz D, dC D, dSt D, dSh D, dCu D, dLa D, dSw D, dDy D, dDn D, dLt D, dLd D, so)) (P := True) rfl trivial ?_
      refine gW_ic_le (gdec_at D_Do_passDay 17 rfl) (tgt := 58) rfl (fun e => ?_) (fun e => ?_)
      · have e := (gle (rfl : nI (tn f i) = nI (tn f i)) (gk 1) (by omega) (by omega)).mp e
        refine gW_b D_Do_passDay 33 2 (pc' := 9) (l' := [(0, .ref 0), (1, .int (nI s)), (2, .int ((nI i) + 1))]) (st' := []) (h' := cDo 0 (f, dG D, dSz D, dC D, dSt D, dSh D, dCu D, dLa D, dSw D, dDy D, dDn D, dLt D, dLd D, so)) (P := True) rfl trivial ?_
        rw [show ((nI i) + 1 : Int32) = nI (i + 1) from (gadd (rfl : nI i = nI i) (gk 1))]
        rw [show p1 (dSt D 1) (n + 1) i f so s = p1 (dSt D 1) n (i + 1) f so s from (if_neg d1).trans (if_pos e)] at kk
        exact ih (i + 1) f so s (by omega) hs kk
      · have e := mt (gle (rfl : nI (tn f i) = nI (tn f i)) (gk 1) (by omega) (by omega)).mpr e
        refine gW_b D_Do_passDay 18 7 (pc' := 42) (l' := [(0, .ref 0), (1, .int (nI s)), (2, .int (nI i))]) (st' := [.int ((dSt D) 1), .int (nI i), .ref 1]) (h' := cDo 0 (f, dG D, dSz D, dC D, dSt D, dSh D, dCu D, dLa D, dSw D, dDy D, dDn D, dLt D, dLd D, so)) (P := vp_in 1 6 ∧ True) rfl ⟨(gvl 1 6 (by omega) (by omega)), trivial⟩ ?_
        refine gW_callV (m_sortOut f i ((dSt D) 1) (by omega)) lk_Do_117 [1, 2] (gdec_at D_Do_passDay 25 rfl) (st := []) rfl rfl ⟨rfl, rfl⟩ (Nat.le_of_ble_eq_true rfl) rfl (by decide) rfl (Nat.le_of_ble_eq_true rfl) ⟨Nat.le_of_ble_eq_true rfl, Nat.le_of_ble_eq_true rfl⟩ ⟨Nat.le_of_ble_eq_true rfl, Nat.le_of_ble_eq_true rfl⟩ (gAft_r rfl rfl (h' := cDo 0 (soR i (moc f i 3) ((dSt D) 1) f 4, dG D, dSz D, dC D, dSt D, dSh D, dCu D, dLa D, dSw D, dDy D, dDn D, dLt D, dLd D, so)) (st' := []) (pc' := 45) (cs' := 0) (ss' := 0) rfl rfl rfl rfl rfl ?_)
        refine gW_b D_Do_passDay 26 9 (pc' := 9) (l' := [(0, .ref 0), (1, .int ((nI s) + (-1))), (2, .int ((nI i) + 1))]) (st' := []) (h' := cDo 0 (soR i (moc f i 3) ((dSt D) 1) f 4, dG D, dSz D, dC D, dSt D, dSh D, dCu D, dLa D, dSw D, dDy D, dDn D, dLt D, dLd D, so + 1)) (P := True) rfl trivial ?_
        rw [show ((nI s) + (-1) : Int32) = nI (s - 1) from (gdec1 (rfl : nI s = nI s) (by omega))]
        rw [show ((nI i) + 1 : Int32) = nI (i + 1) from (gadd (rfl : nI i = nI i) (gk 1))]
        rw [show p1 (dSt D 1) (n + 1) i f so s = p1 (dSt D 1) n (i + 1) (soR i (moc f i 3) (dSt D 1) f 4) (so + 1) (s - 1) from (if_neg d1).trans (if_neg e)] at kk
        exact ih (i + 1) _ _ (s - 1) (by omega) (by omega) kk
theorem l_passDay2 (p : Nat) {sc : Nat × (Nat → Int32)} {n0 : Nat} {E : gO → gH → Prop} : ∀ (s : Nat) (D : gDom), dOK D → p < dSz D → s ≤ 9 → (gW K_Do_passDay sc { frames := 3, locals := 73, cells := 0, slots := 0 } n0 E 0 0 100 [(0, .ref 0), (1, .int (nI ((wl p s D).2))), (2, .int (nI p))] [] (cDo 0 ((wl p s D).1))) → gW K_Do_passDay sc { frames := 3, locals := 73, cells := 0, slots := 0 } n0 E 0 0 77 [(0, .ref 0), (1, .int (nI s)), (2, .int (nI p))] [] (cDo 0 D) := by
  intro s
  induction s with
  | zero =>
    intro D hok hp hs kk
    refine gW_b D_Do_passDay 42 1 (pc' := 78) (l' := [(0, .ref 0), (1, .int (nI 0)), (2, .int (nI p))]) (st' := [.int (nI 0)]) (h' := cDo 0 D) (P := True) rfl trivial ?_
    refine gW_if_le (gdec_at D_Do_passDay 43 rfl) (tgt := 100) rfl (fun _ => ?_) (fun cq => absurd ((gle (rfl : nI 0 = nI 0) (gk 0) (by omega) (by omega)).mpr (by omega)) cq)
    exact kk
  | succ s ih =>
    intro D hok hp hs kk
    refine gW_b D_Do_passDay 42 1 (pc' := 78) (l' := [(0, .ref 0), (1, .int (nI (s + 1))), (2, .int (nI p))]) (st' := [.int (nI (s + 1))]) (h' := cDo 0 D) (P := True) rfl trivial ?_
    refine gW_if_le (gdec_at D_Do_passDay 43 rfl) (tgt := 100) rfl (fun cq => absurd cq (mt (gle (rfl : nI (s + 1) = nI (s + 1)) (gk 0) (by omega) (by omega)).mp (by omega))) (fun _ => ?_)
    refine gW_b D_Do_passDay 44 2 (pc' := 83) (l' := [(0, .ref 0), (1, .int (nI (s + 1))), (2, .int (nI p))]) (st' := [.int (nI p), .ref 0]) (h' := cDo 0 D) (P := True) rfl trivial ?_
    refine gW_callV (m_canBeLaid D p (by assumption) (by assumption)) lk_Do_124 [0, 1, 2, 3, 4, 5, 6, 7, 8, 9] (gdec_at D_Do_passDay 46 rfl) (st := []) rfl rfl ⟨rfl, rfl⟩ (Nat.le_of_ble_eq_true rfl) rfl (by decide) rfl (Nat.le_of_ble_eq_true rfl) ⟨Nat.le_of_ble_eq_true rfl, Nat.le_of_ble_eq_true rfl⟩ ⟨Nat.le_of_ble_eq_true rfl, Nat.le_of_ble_eq_true rfl⟩ (gAft_r rfl rfl (h' := cDo 0 D) (st' := [.int (bI (clb D p))]) (pc' := 86) (cs' := 0) (ss' := 0) rfl rfl rfl rfl rfl ?_)
    refine gW_if_eq (gdec_at D_Do_passDay 47 rfl) (tgt := 100) rfl (fun d => ?_) (fun d => ?_)
    · skip
      have d := bI_f d
      rw [show wl p (s + 1) D = (D, s + 1) from if_neg (by rw [d]; decide)] at kk
      exact kk
    · skip
      have d := bI_t d
      refine gW_b D_Do_passDay 48 2 (pc' := 91) (l' := [(0, .ref 0), (1, .int (nI (s + 1))), (2, .int (nI p))]) (st' := [.int (nI p), .ref 0]) (h' := cDo 0 D) (P := True) rfl trivial ?_
      refine gW_callV (m_layOnce D p (by assumption) (by assumption)) lk_Do_128 [0, 1, 2, 3, 4, 5, 6, 7, 8, 9] (gdec_at D_Do_passDay 50 rfl) (st := []) rfl rfl ⟨rfl, rfl⟩ (Nat.le_of_ble_eq_true rfl) rfl (by decide) rfl (Nat.le_of_ble_eq_true rfl) ⟨Nat.le_of_ble_eq_true rfl, Nat.le_of_ble_eq_true rfl⟩ ⟨Nat.le_of_ble_eq_true rfl, Nat.le_of_ble_eq_true rfl⟩ (gAft_r rfl rfl (h' := cDo 0 (layD D p)) (st' := []) (pc' := 94) (cs' := 0) (ss' := 0) rfl rfl rfl rfl rfl ?_)
      refine gW_b D_Do_passDay 51 2 (pc' := 77) (l' := [(0, .ref 0), (1, .int ((nI (s + 1)) + (-1))), (2, .int (nI p))]) (st' := []) (h' := cDo 0 (layD D p)) (P := True) rfl trivial ?_
      rw [show ((nI (s + 1)) + (-1) : Int32) = nI s from (gpred (rfl : nI (s + 1) = nI (s + 1)))]
      rw [show wl p (s + 1) D = wl p s (layD D p) from if_pos d] at kk
      exact ih (layD D p) (dOK_lay hok) hp (by omega) kk
theorem l_passDay3 {sc : Nat × (Nat → Int32)} {n0 : Nat} {E : gO → gH → Prop} : ∀ (n i : Nat) (D : gDom) (s : Nat), i + n = dSz D → dOK D → s ≤ 9 → (∀ s2, gW K_Do_passDay sc { frames := 3, locals := 73, cells := 0, slots := 0 } n0 E 0 0 106 [(0, .ref 0), (1, .int s2)] [] (cDo 0 ((p2 n i D s).1))) → gW K_Do_passDay sc { frames := 3, locals := 73, cells := 0, slots := 0 } n0 E 0 0 66 [(0, .ref 0), (1, .int (nI s)), (2, .int (nI i))] [] (cDo 0 D) := by
  intro n
  induction n with
  | zero =>
    intro i D s hi hok hs kk
    have hs10 := hok.1
    refine gW_b D_Do_passDay 37 4 (pc' := 74) (l' := [(0, .ref 0), (1, .int (nI s)), (2, .int (nI i))]) (st' := [.int (nI (dSz D)), .int (nI i)]) (h' := cDo 0 D) (P := True) rfl trivial ?_
    refine gW_ic_ge (gdec_at D_Do_passDay 41 rfl) (tgt := 106) rfl (fun _ => ?_) (fun cq => absurd ((gle (rfl : nI (dSz D) = nI (dSz D)) (rfl : nI i = nI i) (by omega) (by omega)).mpr (by omega)) cq)
    refine gW_l [0, 1] (l' := [(0, .ref 0), (1, .int (nI s))]) rfl ?_
    exact kk _
  | succ n ih =>
    intro i D s hi hok hs kk
    have hs10 := hok.1
    refine gW_b D_Do_passDay 37 4 (pc' := 74) (l' := [(0, .ref 0), (1, .int (nI s)), (2, .int (nI i))]) (st' := [.int (nI (dSz D)), .int (nI i)]) (h' := cDo 0 D) (P := True) rfl trivial ?_
    refine gW_ic_ge (gdec_at D_Do_passDay 41 rfl) (tgt := 106) rfl (fun cq => absurd cq (mt (gle (rfl : nI (dSz D) = nI (dSz D)) (rfl : nI i = nI i) (by omega) (by omega)).mp (by omega))) (fun _ => ?_)
    refine l_passDay2 i s D hok (by omega) hs ?_
    obtain ⟨h1, h2, h3⟩ := wl_ok i s D hok
    refine gW_b D_Do_passDay 53 2 (pc' := 66) (l' := [(0, .ref 0), (1, .int (nI ((wl i s D).2))), (2, .int ((nI i) + 1))]) (st' := []) (h' := cDo 0 ((wl i s D).1)) (P := True) rfl trivial ?_
    rw [show ((nI i) + 1 : Int32) = nI (i + 1) from (gadd (rfl : nI i = nI i) (gk 1))]
    exact ih (i + 1) (wl i s D).1 (wl i s D).2 (by rw [h2]; omega) h1 (by omega) kk
theorem m_passDay (D : gDom) (hok : dOK D) (hst : dSt D 3 = nI (tnx (dSt D 3))) (hs9 : tnx (dSt D 3) ≤ 9) : gM K_Do_passDay { frames := 3, locals := 73, cells := 0, slots := 0 } [.ref 0] (cDo 0 D) (gD (.inl none) (cDo 0 (pdD D))) := by
  refine gM_of rfl rfl (Nat.le_of_ble_eq_true rfl) (fun sc => ?_)
  refine gW_b D_Do_passDay 0 7 (pc' := 9) (l' := [(0, .ref 0), (1, .int ((dSt D) 3)), (2, .int 0)]) (st' := []) (h' := cDo 0 D) (P := vp_in 3 6 ∧ True) rfl ⟨(gvl 3 6 (by omega) (by omega)), trivial⟩ ?_
  rw [show (dSt D) 3 = nI (tnx (dSt D 3)) from hst]
  refine l_passDay1 D 6 0 (dTr D) (dSo D) (tnx (dSt D 3)) rfl hs9 ?_
  refine gW_b D_Do_passDay 35 2 (pc' := 66) (l' := [(0, .ref 0), (1, .int (nI ((pdA D).2.2))), (2, .int 0)]) (st' := []) (h' := cDo 0 ((pdA D).1, dG D, dSz D, dC D, dSt D, dSh D, dCu D, dLa D, dSw D, dDy D, dDn D, dLt D, dLd D, (pdA D).2.1)) (P := True) rfl trivial ?_
  refine l_passDay3 (dSz D) 0 (setTS D (pdA D).1 (pdA D).2.1) (pdA D).2.2 (Nat.zero_add _) (setTS_ok hok) (Nat.le_trans (p1_le _ _ _ _ _ _) hs9) (fun s2 => ?_)
  have h1 := p2_ok (dSz D) 0 (setTS D (pdA D).1 (pdA D).2.1) (pdA D).2.2 (setTS_ok hok)
  have h2 : dSz (pdB D).1 ≤ 10 := h1.1.1
  have h3 : dSz (dsR (dSz (pdB D).1) (pdB D).1) ≤ 10 := Nat.le_trans (dsR_le _ _) h2
  refine gW_b D_Do_passDay 55 1 (pc' := 107) (l' := [(0, .ref 0), (1, .int s2)]) (st' := [.ref 0]) (h' := cDo 0 ((pdB D).1)) (P := True) rfl trivial ?_
  refine gW_callV (m_dismissDone ((pdB D).1) (by assumption)) lk_Do_131 [0, 1, 2, 3, 4, 5, 6, 7, 8, 9] (gdec_at D_Do_passDay 56 rfl) (st := []) rfl rfl ⟨rfl, rfl⟩ (Nat.le_of_ble_eq_true rfl) rfl (by decide) rfl (Nat.le_of_ble_eq_true rfl) ⟨Nat.le_of_ble_eq_true rfl, Nat.le_of_ble_eq_true rfl⟩ ⟨Nat.le_of_ble_eq_true rfl, Nat.le_of_ble_eq_true rfl⟩ (gAft_r rfl rfl (h' := cDo 0 (dsR (dSz ((pdB D).1)) ((pdB D).1))) (st' := []) (pc' := 110) (cs' := 0) (ss' := 0) rfl rfl rfl rfl rfl ?_)
  refine gW_b D_Do_passDay 57 6 (pc' := 120) (l' := [(0, .ref 0), (1, .int s2)]) (st' := [.int ((dSt (dsR (dSz ((pdB D).1)) ((pdB D).1))) 2), .ref 3]) (h' := cDo 0 (dsR (dSz ((pdB D).1)) ((pdB D).1))) (P := vp_in 2 6 ∧ True) rfl ⟨(gvl 2 6 (by omega) (by omega)), trivial⟩ ?_
  refine gW_callV (m_arrange (dG (dsR (dSz ((pdB D).1)) ((pdB D).1))) (dSz (dsR (dSz ((pdB D).1)) ((pdB D).1))) (dC (dsR (dSz ((pdB D).1)) ((pdB D).1))) ((dSt (dsR (dSz ((pdB D).1)) ((pdB D).1))) 2) (by omega)) lk_Do_99 [3, 4] (gdec_at D_Do_passDay 63 rfl) (st := []) rfl rfl ⟨rfl, rfl⟩ (Nat.le_of_ble_eq_true rfl) rfl (by decide) rfl (Nat.le_of_ble_eq_true rfl) ⟨Nat.le_of_ble_eq_true rfl, Nat.le_of_ble_eq_true rfl⟩ ⟨Nat.le_of_ble_eq_true rfl, Nat.le_of_ble_eq_true rfl⟩ (gAft_r rfl rfl (h' := cDo 0 (dTr (dsR (dSz ((pdB D).1)) ((pdB D).1)), arrO (keyOf ((dSt (dsR (dSz ((pdB D).1)) ((pdB D).1))) 2)) (dG (dsR (dSz ((pdB D).1)) ((pdB D).1))) ((dSz (dsR (dSz ((pdB D).1)) ((pdB D).1))) - 1), dSz (dsR (dSz ((pdB D).1)) ((pdB D).1)), dC (dsR (dSz ((pdB D).1)) ((pdB D).1)), dSt (dsR (dSz ((pdB D).1)) ((pdB D).1)), dSh (dsR (dSz ((pdB D).1)) ((pdB D).1)), dCu (dsR (dSz ((pdB D).1)) ((pdB D).1)), dLa (dsR (dSz ((pdB D).1)) ((pdB D).1)), dSw (dsR (dSz ((pdB D).1)) ((pdB D).1)), dDy (dsR (dSz ((pdB D).1)) ((pdB D).1)), dDn (dsR (dSz ((pdB D).1)) ((pdB D).1)), dLt (dsR (dSz ((pdB D).1)) ((pdB D).1)), dLd (dsR (dSz ((pdB D).1)) ((pdB D).1)), dSo (dsR (dSz ((pdB D).1)) ((pdB D).1)))) (st' := []) (pc' := 123) (cs' := 0) (ss' := 0) rfl rfl rfl rfl rfl ?_)
  refine gW_b D_Do_passDay 64 6 (pc' := 133) (l' := [(0, .ref 0), (1, .int s2)]) (st' := []) (h' := cDo 0 (dTr (dsR (dSz ((pdB D).1)) ((pdB D).1)), arrO (keyOf ((dSt (dsR (dSz ((pdB D).1)) ((pdB D).1))) 2)) (dG (dsR (dSz ((pdB D).1)) ((pdB D).1))) ((dSz (dsR (dSz ((pdB D).1)) ((pdB D).1))) - 1), dSz (dsR (dSz ((pdB D).1)) ((pdB D).1)), dC (dsR (dSz ((pdB D).1)) ((pdB D).1)), dSt (dsR (dSz ((pdB D).1)) ((pdB D).1)), dSh (dsR (dSz ((pdB D).1)) ((pdB D).1)), dCu (dsR (dSz ((pdB D).1)) ((pdB D).1)), dLa (dsR (dSz ((pdB D).1)) ((pdB D).1)), dSw (dsR (dSz ((pdB D).1)) ((pdB D).1)), (dDy (dsR (dSz ((pdB D).1)) ((pdB D).1))) + 1, dDn (dsR (dSz ((pdB D).1)) ((pdB D).1)), dLt (dsR (dSz ((pdB D).1)) ((pdB D).1)), dLd (dsR (dSz ((pdB D).1)) ((pdB D).1)), dSo (dsR (dSz ((pdB D).1)) ((pdB D).1)))) (P := True) rfl trivial ?_
  exact gW_vret (gdec_at D_Do_passDay 70 rfl) rfl (Nat.le_of_ble_eq_true rfl) ⟨rfl, rfl⟩ (Nat.le_of_ble_eq_true rfl) (Nat.le_of_ble_eq_true rfl)

theorem m_DocopyFrom (D D2 : gDom) : gM K_Do_copyFrom { frames := 3, locals := 82, cells := 0, slots := 0 } [.ref 0, .ref 10] (cDo 0 D2 ++ cDo 10 D) (gD (.inl none) (cDo 0 D ++ cDo 10 D)) := by
  refine gM_of rfl rfl (Nat.le_of_ble_eq_true rfl) (fun sc => ?_)
  refine gW_b D_Do_copyFrom 0 4 (pc' := 8) (l' := [(0, .ref 0), (1, .ref 10)]) (st' := [.ref 11, .ref 1]) (h' := cDo 0 D2 ++ cDo 10 D) (P := True) rfl trivial ?_
  refine gW_callV (m_TrcopyFrom (dTr D) (dTr D2)) lk_Do_48 [1, 2, 11, 12] (gdec_at D_Do_copyFrom 4 rfl) (st := []) rfl rfl ⟨rfl, rfl⟩ (Nat.le_of_ble_eq_true rfl) rfl (by decide) rfl (Nat.le_of_ble_eq_true rfl) ⟨Nat.le_of_ble_eq_true rfl, Nat.le_of_ble_eq_true rfl⟩ ⟨Nat.le_of_ble_eq_true rfl, Nat.le_of_ble_eq_true rfl⟩ (gAft_r rfl rfl (h' := cDo 0 (dTr D, dG D2, dSz D2, dC D2, dSt D2, dSh D2, dCu D2, dLa D2, dSw D2, dDy D2, dDn D2, dLt D2, dLd D2, dSo D2) ++ cDo 10 D) (st' := []) (pc' := 11) (cs' := 0) (ss' := 0) rfl rfl rfl rfl rfl ?_)
  refine gW_b D_Do_copyFrom 5 4 (pc' := 19) (l' := [(0, .ref 0), (1, .ref 10)]) (st' := [.ref 13, .ref 3]) (h' := cDo 0 (dTr D, dG D2, dSz D2, dC D2, dSt D2, dSh D2, dCu D2, dLa D2, dSw D2, dDy D2, dDn D2, dLt D2, dLd D2, dSo D2) ++ cDo 10 D) (P := True) rfl trivial ?_
  refine gW_callV (m_SecopyFrom (dG D) (dG D2) (dSz D) (dSz D2) (dC D) (dC D2)) lk_Do_52 [3, 4, 13, 14] (gdec_at D_Do_copyFrom 9 rfl) (st := []) rfl rfl ⟨rfl, rfl⟩ (Nat.le_of_ble_eq_true rfl) rfl (by decide) rfl (Nat.le_of_ble_eq_true rfl) ⟨Nat.le_of_ble_eq_true rfl, Nat.le_of_ble_eq_true rfl⟩ ⟨Nat.le_of_ble_eq_true rfl, Nat.le_of_ble_eq_true rfl⟩ (gAft_r rfl rfl (h' := cDo 0 (dTr D, dG D, dSz D, dC D, dSt D2, dSh D2, dCu D2, dLa D2, dSw D2, dDy D2, dDn D2, dLt D2, dLd D2, dSo D2) ++ cDo 10 D) (st' := []) (pc' := 22) (cs' := 0) (ss' := 0) rfl rfl rfl rfl rfl ?_)
  refine gW_b D_Do_copyFrom 10 4 (pc' := 30) (l' := [(0, .ref 0), (1, .ref 10)]) (st' := [.ref 5, .ref 15]) (h' := cDo 0 (dTr D, dG D, dSz D, dC D, dSt D2, dSh D2, dCu D2, dLa D2, dSw D2, dDy D2, dDn D2, dLt D2, dLd D2, dSo D2) ++ cDo 10 D) (P := True) rfl trivial ?_
  refine gW_callS (m_copyRow 6 (dSt D) (dSt D2) (by omega)) lk_Do_44 [15, 5] (gdec_at D_Do_copyFrom 14 rfl) (st := []) rfl rfl ⟨rfl, rfl⟩ (Nat.le_of_ble_eq_true rfl) (Nat.le_of_ble_eq_true rfl) ⟨Nat.le_of_ble_eq_true rfl, Nat.le_of_ble_eq_true rfl⟩ ⟨Nat.le_of_ble_eq_true rfl, Nat.le_of_ble_eq_true rfl⟩ (gAft_r rfl rfl (h' := cDo 0 (dTr D, dG D, dSz D, dC D, dSt D, dSh D2, dCu D2, dLa D2, dSw D2, dDy D2, dDn D2, dLt D2, dLd D2, dSo D2) ++ cDo 10 D) (st' := []) (pc' := 33) (cs' := 0) (ss' := 0) rfl rfl rfl rfl rfl ?_)
  refine gW_b D_Do_copyFrom 15 4 (pc' := 41) (l' := [(0, .ref 0), (1, .ref 10)]) (st' := [.ref 6, .ref 16]) (h' := cDo 0 (dTr D, dG D, dSz D, dC D, dSt D, dSh D2, dCu D2, dLa D2, dSw D2, dDy D2, dDn D2, dLt D2, dLd D2, dSo D2) ++ cDo 10 D) (P := True) rfl trivial ?_
  refine gW_callS (m_copyRow 4 (dSh D) (dSh D2) (by omega)) lk_Do_44 [16, 6] (gdec_at D_Do_copyFrom 19 rfl) (st := []) rfl rfl ⟨rfl, rfl⟩ (Nat.le_of_ble_eq_true rfl) (Nat.le_of_ble_eq_true rfl) ⟨Nat.le_of_ble_eq_true rfl, Nat.le_of_ble_eq_true rfl⟩ ⟨Nat.le_of_ble_eq_true rfl, Nat.le_of_ble_eq_true rfl⟩ (gAft_r rfl rfl (h' := cDo 0 (dTr D, dG D, dSz D, dC D, dSt D, dSh D, dCu D2, dLa D2, dSw D2, dDy D2, dDn D2, dLt D2, dLd D2, dSo D2) ++ cDo 10 D) (st' := []) (pc' := 44) (cs' := 0) (ss' := 0) rfl rfl rfl rfl rfl ?_)
  refine gW_b D_Do_copyFrom 20 4 (pc' := 52) (l' := [(0, .ref 0), (1, .ref 10)]) (st' := [.ref 7, .ref 17]) (h' := cDo 0 (dTr D, dG D, dSz D, dC D, dSt D, dSh D, dCu D2, dLa D2, dSw D2, dDy D2, dDn D2, dLt D2, dLd D2, dSo D2) ++ cDo 10 D) (P := True) rfl trivial ?_
  refine gW_callS (m_copyRow 4 (dCu D) (dCu D2) (by omega)) lk_Do_44 [17, 7] (gdec_at D_Do_copyFrom 24 rfl) (st := []) rfl rfl ⟨rfl, rfl⟩ (Nat.le_of_ble_eq_true rfl) (Nat.le_of_ble_eq_true rfl) ⟨Nat.le_of_ble_eq_true rfl, Nat.le_of_ble_eq_true rfl⟩ ⟨Nat.le_of_ble_eq_true rfl, Nat.le_of_ble_eq_true rfl⟩ (gAft_r rfl rfl (h' := cDo 0 (dTr D, dG D, dSz D, dC D, dSt D, dSh D, dCu D, dLa D2, dSw D2, dDy D2, dDn D2, dLt D2, dLd D2, dSo D2) ++ cDo 10 D) (st' := []) (pc' := 55) (cs' := 0) (ss' := 0) rfl rfl rfl rfl rfl ?_)
  refine gW_b D_Do_copyFrom 25 4 (pc' := 63) (l' := [(0, .ref 0), (1, .ref 10)]) (st' := [.ref 8, .ref 18]) (h' := cDo 0 (dTr D, dG D, dSz D, dC D, dSt D, dSh D, dCu D, dLa D2, dSw D2, dDy D2, dDn D2, dLt D2, dLd D2, dSo D2) ++ cDo 10 D) (P := True) rfl trivial ?_
  refine gW_callS (m_copyRow 4 (dLa D) (dLa D2) (by omega)) lk_Do_44 [18, 8] (gdec_at D_Do_copyFrom 29 rfl) (st := []) rfl rfl ⟨rfl, rfl⟩ (Nat.le_of_ble_eq_true rfl) (Nat.le_of_ble_eq_true rfl) ⟨Nat.le_of_ble_eq_true rfl, Nat.le_of_ble_eq_true rfl⟩ ⟨Nat.le_of_ble_eq_true rfl, Nat.le_of_ble_eq_true rfl⟩ (gAft_r rfl rfl (h' := cDo 0 (dTr D, dG D, dSz D, dC D, dSt D, dSh D, dCu D, dLa D, dSw D2, dDy D2, dDn D2, dLt D2, dLd D2, dSo D2) ++ cDo 10 D) (st' := []) (pc' := 66) (cs' := 0) (ss' := 0) rfl rfl rfl rfl rfl ?_)
  refine gW_b D_Do_copyFrom 30 4 (pc' := 74) (l' := [(0, .ref 0), (1, .ref 10)]) (st' := [.ref 9, .ref 19]) (h' := cDo 0 (dTr D, dG D, dSz D, dC D, dSt D, dSh D, dCu D, dLa D, dSw D2, dDy D2, dDn D2, dLt D2, dLd D2, dSo D2) ++ cDo 10 D) (P := True) rfl trivial ?_
  refine gW_callS (m_copyRow 4 (dSw D) (dSw D2) (by omega)) lk_Do_44 [19, 9] (gdec_at D_Do_copyFrom 34 rfl) (st := []) rfl rfl ⟨rfl, rfl⟩ (Nat.le_of_ble_eq_true rfl) (Nat.le_of_ble_eq_true rfl) ⟨Nat.le_of_ble_eq_true rfl, Nat.le_of_ble_eq_true rfl⟩ ⟨Nat.le_of_ble_eq_true rfl, Nat.le_of_ble_eq_true rfl⟩ (gAft_r rfl rfl (h' := cDo 0 (dTr D, dG D, dSz D, dC D, dSt D, dSh D, dCu D, dLa D, dSw D, dDy D2, dDn D2, dLt D2, dLd D2, dSo D2) ++ cDo 10 D) (st' := []) (pc' := 77) (cs' := 0) (ss' := 0) rfl rfl rfl rfl rfl ?_)
  refine gW_b D_Do_copyFrom 35 20 (pc' := 117) (l' := [(0, .ref 0), (1, .ref 10)]) (st' := []) (h' := cDo 0 D ++ cDo 10 D) (P := True) rfl trivial ?_
  exact gW_vret (gdec_at D_Do_copyFrom 55 rfl) rfl (Nat.le_of_ble_eq_true rfl) ⟨rfl, rfl⟩ (Nat.le_of_ble_eq_true rfl) (Nat.le_of_ble_eq_true rfl)
