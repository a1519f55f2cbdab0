/-! THE LAW's setter. Printed by wip/p28/meths29.py -/
set_option maxRecDepth 20000 in
theorem l_set4 (D : gDom) (s : Nat) (hok : rOK D) (htr : trI (dTr D)) (hs : s < dSz D) (hw : ¬ dG D (s * 5 + 2) ≤ 0) (hR : ¬ rpI (dTr D) (tnx (dG D (s * 5 + 1))) 6 ≤ 0) {sc : Nat × (Nat → Int32)} {n0 : Nat} (hn0 : n0 ≤ 4) : gW K_Lw_setter sc { frames := 3, locals := 67, cells := 0, slots := 0 } n0 (gD (.inl (some (.int (lyV D s)))) [cI 24 (dTr (lyD D s)), cI 50 (dG (lyD D s)), cI 6 (dSt D), cI 16 (cF4 (dSh D) (dCu D) (dSw (lyD D s)) (dLa (lyD D s)))]) 0 0 167 [(0, .ref 0), (1, .ref 1), (2, .ref 2), (3, .ref 3), (4, .int (nI s)), (5, .int (nI (tnx (dG D (s * 5 + 1))))), (6, .int (lyN D s))] [.int (lyB D s)] ([cI 24 (lcR (tnx (dG D (s * 5 + 1))) 6 0 (dTr D) (lyN D s)), cI 50 (dG D), cI 6 (dSt D), cI 16 (cF4 (dSh D) (dCu D) (dSw D) (dLa D))]) := by
  obtain ⟨h10, hrow, h5, h51, h52, h4, h41, h42, h3, h31⟩ := id hok
  obtain ⟨⟨hT, ht4⟩, hC, hc5⟩ := hrow s hs
  refine gW_b D_Lw_setter 100 10 (pc' := 181) (l' := [(0, .ref 0), (1, .ref 1), (2, .ref 2), (3, .ref 3), (4, .int (nI s)), (5, .int (nI (tnx (dG D (s * 5 + 1))))), (6, .int (lyN D s)), (8, .int (lyB D s))]) (st' := []) (h' := [cI 24 (lcR (tnx (dG D (s * 5 + 1))) 6 0 (dTr D) (lyN D s)), cI 50 (dG D), cI 6 (dSt D), cI 16 (upd (cF4 (dSh D) (dCu D) (dSw D) (dLa D)) ((8 + (nI (tnx (dG D (s * 5 + 1))))).toNatClampNeg) (((cF4 (dSh D) (dCu D) (dSw D) (dLa D)) ((8 + (nI (tnx (dG D (s * 5 + 1))))).toNatClampNeg)) + (lyB D s)))]) (P := vp_in (8 + (nI (tnx (dG D (s * 5 + 1))))) 16 ∧ vp_in (8 + (nI (tnx (dG D (s * 5 + 1))))) 16 ∧ True) rfl ⟨(gvin (gadd (gk 8) (rfl : nI (tnx (dG D (s * 5 + 1))) = nI (tnx (dG D (s * 5 + 1))))) (by omega) (by omega)), (gvin (gadd (gk 8) (rfl : nI (tnx (dG D (s * 5 + 1))) = nI (tnx (dG D (s * 5 + 1))))) (by omega) (by omega)), trivial⟩ ?_
  rw [show (8 + (nI (tnx (dG D (s * 5 + 1))))).toNatClampNeg = (8 + (tnx (dG D (s * 5 + 1)))) from gclp (gadd (gk 8) (rfl : nI (tnx (dG D (s * 5 + 1))) = nI (tnx (dG D (s * 5 + 1))))) (by omega)]
  rw [cF4_sw _ _ _ _ ht4, cF4_u8 _ _ _ _ ht4]
  refine gW_b D_Lw_setter 110 11 (pc' := 196) (l' := [(0, .ref 0), (1, .ref 1), (2, .ref 2), (3, .ref 3), (4, .int (nI s)), (5, .int (nI (tnx (dG D (s * 5 + 1))))), (6, .int (lyN D s)), (8, .int (lyB D s))]) (st' := []) (h' := [cI 24 (lcR (tnx (dG D (s * 5 + 1))) 6 0 (dTr D) (lyN D s)), cI 50 (dG D), cI 6 (dSt D), cI 16 (upd (cF4 (dSh D) (dCu D) (upd (dSw D) (tnx (dG D (s * 5 + 1))) (dSw D (tnx (dG D (s * 5 + 1))) + lyB D s)) (dLa D)) ((12 + (nI (tnx (dG D (s * 5 + 1))))).toNatClampNeg) (((cF4 (dSh D) (dCu D) (upd (dSw D) (tnx (dG D (s * 5 + 1))) (dSw D (tnx (dG D (s * 5 + 1))) + lyB D s)) (dLa D)) ((12 + (nI (tnx (dG D (s * 5 + 1))))).toNatClampNeg)) + ((lyN D s) - (lyB D s))))]) (P := vp_in (12 + (nI (tnx (dG D (s * 5 + 1))))) 16 ∧ vp_in (12 + (nI (tnx (dG D (s * 5 + 1))))) 16 ∧ True) rfl ⟨(gvin (gadd (gk 12) (rfl : nI (tnx (dG D (s * 5 + 1))) = nI (tnx (dG D (s * 5 + 1))))) (by omega) (by omega)), (gvin (gadd (gk 12) (rfl : nI (tnx (dG D (s * 5 + 1))) = nI (tnx (dG D (s * 5 + 1))))) (by omega) (by omega)), trivial⟩ ?_
  rw [show (12 + (nI (tnx (dG D (s * 5 + 1))))).toNatClampNeg = (12 + (tnx (dG D (s * 5 + 1)))) from gclp (gadd (gk 12) (rfl : nI (tnx (dG D (s * 5 + 1))) = nI (tnx (dG D (s * 5 + 1))))) (by omega)]
  rw [cF4_la _ _ _ _ ht4, cF4_u12 _ _ _ _ ht4]
  refine gW_b D_Lw_setter 121 29 (pc' := 233) (l' := [(0, .ref 0), (1, .ref 1), (2, .ref 2), (3, .ref 3), (4, .int (nI s)), (5, .int (nI (tnx (dG D (s * 5 + 1))))), (6, .int (lyN D s)), (8, .int (lyB D s))]) (st' := [.int ((lyN D s) - (lyB D s))]) (h' := [cI 24 (lcR (tnx (dG D (s * 5 + 1))) 6 0 (dTr D) (lyN D s)), cI 50 (upd (upd (dG D) (((5 * (nI s)) + 2).toNatClampNeg) (((dG D) (((5 * (nI s)) + 2).toNatClampNeg)) - ((lyN D s) - (lyB D s)))) (((5 * (nI s)) + 4).toNatClampNeg) (((upd (dG D) (((5 * (nI s)) + 2).toNatClampNeg) (((dG D) (((5 * (nI s)) + 2).toNatClampNeg)) - ((lyN D s) - (lyB D s)))) (((5 * (nI s)) + 4).toNatClampNeg)) + ((lyN D s) - (lyB D s)))), cI 6 (dSt D), cI 16 (cF4 (dSh D) (dCu D) (upd (dSw D) (tnx (dG D (s * 5 + 1))) (dSw D (tnx (dG D (s * 5 + 1))) + lyB D s)) (upd (dLa D) (tnx (dG D (s * 5 + 1))) (dLa D (tnx (dG D (s * 5 + 1))) + (lyN D s - lyB D s))))]) (P := vp_in ((5 * (nI s)) + 2) 50 ∧ vp_in ((5 * (nI s)) + 2) 50 ∧ vp_in ((5 * (nI s)) + 4) 50 ∧ vp_in ((5 * (nI s)) + 4) 50 ∧ True) rfl ⟨(gvin (gadd (gmul2 (gk 5) (rfl : nI s = nI s)) (gk 2)) (by omega) (by omega)), (gvin (gadd (gmul2 (gk 5) (rfl : nI s = nI s)) (gk 2)) (by omega) (by omega)), (gvin (gadd (gmul2 (gk 5) (rfl : nI s = nI s)) (gk 4)) (by omega) (by omega)), (gvin (gadd (gmul2 (gk 5) (rfl : nI s = nI s)) (gk 4)) (by omega) (by omega)), trivial⟩ ?_
  rw [show ((5 * (nI s)) + 2).toNatClampNeg = ((s * 5) + 2) from gclp (gadd (gmul2 (gk 5) (rfl : nI s = nI s)) (gk 2)) (by omega)]
  rw [show ((5 * (nI s)) + 4).toNatClampNeg = ((s * 5) + 4) from gclp (gadd (gmul2 (gk 5) (rfl : nI s = nI s)) (gk 4)) (by omega)]
  rw [show upd (upd (dG D) (s * 5 + 2) (dG D (s * 5 + 2) - (lyN D s - lyB D s))) (s * 5 + 4) (upd (dG D) (s * 5 + 2) (dG D (s * 5 + 2) - (lyN D s - lyB D s)) (s * 5 + 4) + (lyN D s - lyB D s)) = layG (dG D) s (lyN D s - lyB D s) from layFG (dG D) s _]
  exact gW_iret (gdec_at D_Lw_setter 150 rfl) rfl rfl hn0 ⟨rfl, rfl⟩ (Nat.le_of_ble_eq_true rfl) (Nat.le_of_ble_eq_true rfl)
set_option maxRecDepth 20000 in
theorem l_set3 (D : gDom) (s : Nat) (hok : rOK D) (htr : trI (dTr D)) (hs : s < dSz D) (hw : ¬ dG D (s * 5 + 2) ≤ 0) (hR : ¬ rpI (dTr D) (tnx (dG D (s * 5 + 1))) 6 ≤ 0) {sc : Nat × (Nat → Int32)} {n0 : Nat} (hn0 : n0 ≤ 4) : gW K_Lw_setter sc { frames := 3, locals := 67, cells := 0, slots := 0 } n0 (gD (.inl (some (.int (lyV D s)))) [cI 24 (dTr (lyD D s)), cI 50 (dG (lyD D s)), cI 6 (dSt D), cI 16 (cF4 (dSh D) (dCu D) (dSw (lyD D s)) (dLa (lyD D s)))]) 0 0 151 [(0, .ref 0), (1, .ref 1), (2, .ref 2), (3, .ref 3), (4, .int (nI s)), (5, .int (nI (tnx (dG D (s * 5 + 1))))), (6, .int (lyN D s))] [] ([cI 24 (lcR (tnx (dG D (s * 5 + 1))) 6 0 (dTr D) (lyN D s)), cI 50 (dG D), cI 6 (dSt D), cI 16 (cF4 (dSh D) (dCu D) (dSw D) (dLa D))]) := by
  refine gW_b D_Lw_setter 89 3 (pc' := 154) (l' := [(0, .ref 0), (1, .ref 1), (2, .ref 2), (3, .ref 3), (4, .int (nI s)), (5, .int (nI (tnx (dG D (s * 5 + 1))))), (6, .int (lyN D s))]) (st' := [.int ((dSt D) 5)]) (h' := [cI 24 (lcR (tnx (dG D (s * 5 + 1))) 6 0 (dTr D) (lyN D s)), cI 50 (dG D), cI 6 (dSt D), cI 16 (cF4 (dSh D) (dCu D) (dSw D) (dLa D))]) (P := vp_in 5 6 ∧ True) rfl ⟨(gvl 5 6 (by omega) (by omega)), trivial⟩ ?_
  refine gW_if_ne (gdec_at D_Lw_setter 92 rfl) (tgt := 161) rfl (fun c => ?_) (fun c => ?_)
  · skip
    have hd : ¬ dSt D 5 = 0 := c
    refine gW_b D_Lw_setter 95 5 (pc' := 167) (l' := [(0, .ref 0), (1, .ref 1), (2, .ref 2), (3, .ref 3), (4, .int (nI s)), (5, .int (nI (tnx (dG D (s * 5 + 1))))), (6, .int (lyN D s))]) (st' := [.int ((lyN D s) / ((dSt D) 5))]) (h' := [cI 24 (lcR (tnx (dG D (s * 5 + 1))) 6 0 (dTr D) (lyN D s)), cI 50 (dG D), cI 6 (dSt D), cI 16 (cF4 (dSh D) (dCu D) (dSw D) (dLa D))]) (P := vp_in 5 6 ∧ ¬ ((dSt D) 5) = 0 ∧ True) rfl ⟨(gvl 5 6 (by omega) (by omega)), (by assumption), trivial⟩ ?_
    rw [show lyN D s / dSt D 5 = lyB D s from (if_neg c : brkI (dSt D 5) (lyN D s) = _).symm]
    exact l_set4 D s hok htr hs hw hR hn0
  · skip
    refine gW_b D_Lw_setter 93 2 (pc' := 167) (l' := [(0, .ref 0), (1, .ref 1), (2, .ref 2), (3, .ref 3), (4, .int (nI s)), (5, .int (nI (tnx (dG D (s * 5 + 1))))), (6, .int (lyN D s))]) (st' := [.int 0]) (h' := [cI 24 (lcR (tnx (dG D (s * 5 + 1))) 6 0 (dTr D) (lyN D s)), cI 50 (dG D), cI 6 (dSt D), cI 16 (cF4 (dSh D) (dCu D) (dSw D) (dLa D))]) (P := True) rfl trivial ?_
    have hz : lyB D s = 0 := if_pos c
    have hl := l_set4 D s hok htr hs hw hR (sc := sc) hn0
    rw [hz] at hl
    exact hl
set_option maxRecDepth 20000 in
theorem l_set2 (g v cc : Nat → Int32) (s t : Nat) (n6 : Int32) (ht : t < 4) {sc : Nat × (Nat → Int32)} {n0 : Nat} {E : gO → gH → Prop} : ∀ (n i : Nat) (f : Nat → Int32) (l : Int32), i + n = 6 → trI f → 0 ≤ l.toInt → l.toInt ≤ 100000 → (gW K_Lw_setter sc { frames := 3, locals := 67, cells := 0, slots := 0 } n0 E 0 0 151 [(0, .ref 0), (1, .ref 1), (2, .ref 2), (3, .ref 3), (4, .int (nI s)), (5, .int (nI t)), (6, .int n6)] [] ([cI 24 (tkL t n i f l), cI 50 g, cI 6 v, cI 16 cc])) → gW K_Lw_setter sc { frames := 3, locals := 67, cells := 0, slots := 0 } n0 E 0 0 73 [(0, .ref 0), (1, .ref 1), (2, .ref 2), (3, .ref 3), (4, .int (nI s)), (5, .int (nI t)), (6, .int n6), (7, .int l), (8, .int (nI i))] [] ([cI 24 f, cI 50 g, cI 6 v, cI 16 cc]) := by
  intro n
  induction n with
  | zero =>
    intro i f l hi h hl0 hl kk
    obtain rfl : i = 6 := by omega
    refine gW_b D_Lw_setter 44 2 (pc' := 77) (l' := [(0, .ref 0), (1, .ref 1), (2, .ref 2), (3, .ref 3), (4, .int (nI s)), (5, .int (nI t)), (6, .int n6), (7, .int l), (8, .int (nI 6))]) (st' := [.int 6, .int (nI 6)]) (h' := [cI 24 f, cI 50 g, cI 6 v, cI 16 cc]) (P := True) rfl trivial ?_
    refine gW_ic_ge (gdec_at D_Lw_setter 46 rfl) (tgt := 151) rfl (fun _ => ?_) (fun cq => absurd ((gle (gk 6) (rfl : nI 6 = nI 6) (by omega) (by omega)).mpr (by omega)) cq)
    refine gW_l [0, 1, 2, 3, 4, 5, 6] (l' := [(0, .ref 0), (1, .ref 1), (2, .ref 2), (3, .ref 3), (4, .int (nI s)), (5, .int (nI t)), (6, .int n6)]) rfl ?_
    exact kk
  | succ n ih =>
    intro i f l hi h hl0 hl kk
    have hcell := h.cell (show i < 6 by omega) ht
    refine gW_b D_Lw_setter 44 2 (pc' := 77) (l' := [(0, .ref 0), (1, .ref 1), (2, .ref 2), (3, .ref 3), (4, .int (nI s)), (5, .int (nI t)), (6, .int n6), (7, .int l), (8, .int (nI i))]) (st' := [.int 6, .int (nI i)]) (h' := [cI 24 f, cI 50 g, cI 6 v, cI 16 cc]) (P := True) rfl trivial ?_
    refine gW_ic_ge (gdec_at D_Lw_setter 46 rfl) (tgt := 151) rfl (fun cq => absurd cq (mt (gle (gk 6) (rfl : nI i = nI i) (by omega) (by omega)).mp (by omega))) (fun _ => ?_)
    refine gW_b D_Lw_setter 47 1 (pc' := 82) (l' := [(0, .ref 0), (1, .ref 1), (2, .ref 2), (3, .ref 3), (4, .int (nI s)), (5, .int (nI t)), (6, .int n6), (7, .int l), (8, .int (nI i))]) (st' := [.int l]) (h' := [cI 24 f, cI 50 g, cI 6 v, cI 16 cc]) (P := True) rfl trivial ?_
    refine gW_if_le (gdec_at D_Lw_setter 48 rfl) (tgt := 151) rfl (fun c => ?_) (fun c => ?_)
    · skip
      rw [show tkL t (n + 1) i f l = f from if_pos c] at kk
      refine gW_l [0, 1, 2, 3, 4, 5, 6] (l' := [(0, .ref 0), (1, .ref 1), (2, .ref 2), (3, .ref 3), (4, .int (nI s)), (5, .int (nI t)), (6, .int n6)]) rfl ?_
      exact kk
    · skip
      have c2 : 0 < l.toInt := by have := mt ile.mpr c; rw [i0] at this; omega
      refine gW_b D_Lw_setter 49 2 (pc' := 88) (l' := [(0, .ref 0), (1, .ref 1), (2, .ref 2), (3, .ref 3), (4, .int (nI s)), (5, .int (nI t)), (6, .int n6), (7, .int l), (8, .int (nI i))]) (st' := [.int (nI i), .ref 0]) (h' := [cI 24 f, cI 50 g, cI 6 v, cI 16 cc]) (P := True) rfl trivial ?_
      refine gW_callS (m_isMixed f i (by omega) h) lk_Lw_20 [0] (gdec_at D_Lw_setter 51 rfl) (st := []) rfl rfl ⟨rfl, rfl⟩ (Nat.le_of_ble_eq_true rfl) (Nat.le_of_ble_eq_true rfl) ⟨Nat.le_of_ble_eq_true rfl, Nat.le_of_ble_eq_true rfl⟩ ⟨Nat.le_of_ble_eq_true rfl, Nat.le_of_ble_eq_true rfl⟩ (gAft_r rfl rfl (h' := [cI 24 f, cI 50 g, cI 6 v, cI 16 cc]) (st' := [.int (bI (mxb f i))]) (pc' := 91) (cs' := 0) (ss' := 0) rfl rfl rfl rfl rfl ?_)
      refine gW_if_ne (gdec_at D_Lw_setter 52 rfl) (tgt := 145) rfl (fun d => ?_) (fun d => ?_)
      · skip
        have d2 := mxb_1 d
        rw [show tkL t (n + 1) i f l = tkL t n (i + 1) f l from (if_neg c).trans (if_pos d2)] at kk
        refine gW_b D_Lw_setter 87 2 (pc' := 73) (l' := [(0, .ref 0), (1, .ref 1), (2, .ref 2), (3, .ref 3), (4, .int (nI s)), (5, .int (nI t)), (6, .int n6), (7, .int l), (8, .int ((nI i) + 1))]) (st' := []) (h' := [cI 24 f, cI 50 g, cI 6 v, cI 16 cc]) (P := True) rfl trivial ?_
        rw [show ((nI i) + 1 : Int32) = nI (i + 1) from (gadd (rfl : nI i = nI i) (gk 1))]
        exact ih (i + 1) f l (by omega) h hl0 hl kk
      · skip
        have d2 : ¬ 1 < tn f i := Nat.not_lt.mpr (mxb_0 d)
        refine gW_b D_Lw_setter 53 8 (pc' := 105) (l' := [(0, .ref 0), (1, .ref 1), (2, .ref 2), (3, .ref 3), (4, .int (nI s)), (5, .int (nI t)), (6, .int n6), (7, .int l), (8, .int (nI i))]) (st' := [.int l, .int (f (((4 * (nI i)) + (nI t)).toNatClampNeg))]) (h' := [cI 24 f, cI 50 g, cI 6 v, cI 16 cc]) (P := vp_in ((4 * (nI i)) + (nI t)) 24 ∧ True) rfl ⟨(gvin (gadd (gmul2 (gk 4) (rfl : nI i = nI i)) (rfl : nI t = nI t)) (by omega) (by omega)), trivial⟩ ?_
        rw [show ((4 * (nI i)) + (nI t)).toNatClampNeg = ((i * 4) + t) from gclp (gadd (gmul2 (gk 4) (rfl : nI i = nI i)) (rfl : nI t = nI t)) (by omega)]
        refine gW_ic_ge (gdec_at D_Lw_setter 61 rfl) (tgt := 120) rfl (fun e => ?_) (fun e => ?_)
        · skip
          have := ile.mp e
          have hz : (if f (i * 4 + t) < l then f (i * 4 + t) else l) = l := (if_neg (Int32.not_lt.mpr e))
          have kk2 : gW K_Lw_setter sc { frames := 3, locals := 67, cells := 0, slots := 0 } n0 E 0 0 151 [(0, .ref 0), (1, .ref 1), (2, .ref 2), (3, .ref 3), (4, .int (nI s)), (5, .int (nI t)), (6, .int n6)] [] ([cI 24 (tkL t n (i + 1) (upd f (i * 4 + t) (f (i * 4 + t) - l)) (l - l)), cI 50 g, cI 6 v, cI 16 cc]) := by
            have e1 : tkL t (n + 1) i f l = tkL t n (i + 1) (upd f (i * 4 + t) (f (i * 4 + t) - (if f (i * 4 + t) < l then f (i * 4 + t) else l))) (l - (if f (i * 4 + t) < l then f (i * 4 + t) else l)) := (if_neg c).trans (if_neg d2)
            rw [hz] at e1
            rw [e1] at kk
            exact kk
          have s1 : (f (i * 4 + t) - l).toInt = (f (i * 4 + t)).toInt - (l).toInt := is (by omega) (by omega)
          have s2 : (l - l).toInt = l.toInt - (l).toInt := is (by omega) (by omega)
          refine gW_b D_Lw_setter 70 19 (pc' := 73) (l' := [(0, .ref 0), (1, .ref 1), (2, .ref 2), (3, .ref 3), (4, .int (nI s)), (5, .int (nI t)), (6, .int n6), (7, .int (l - l)), (8, .int ((nI i) + 1)), (9, .int l)]) (st' := []) (h' := [cI 24 (upd f (((4 * (nI i)) + (nI t)).toNatClampNeg) ((f (((4 * (nI i)) + (nI t)).toNatClampNeg)) - l)), cI 50 g, cI 6 v, cI 16 cc]) (P := vp_in ((4 * (nI i)) + (nI t)) 24 ∧ vp_in ((4 * (nI i)) + (nI t)) 24 ∧ True) rfl ⟨(gvin (gadd (gmul2 (gk 4) (rfl : nI i = nI i)) (rfl : nI t = nI t)) (by omega) (by omega)), (gvin (gadd (gmul2 (gk 4) (rfl : nI i = nI i)) (rfl : nI t = nI t)) (by omega) (by omega)), trivial⟩ ?_
          rw [show ((4 * (nI i)) + (nI t)).toNatClampNeg = ((i * 4) + t) from gclp (gadd (gmul2 (gk 4) (rfl : nI i = nI i)) (rfl : nI t = nI t)) (by omega)]
          rw [show ((nI i) + 1 : Int32) = nI (i + 1) from (gadd (rfl : nI i = nI i) (gk 1))]
          refine gW_l [0, 1, 2, 3, 4, 5, 6, 7, 8] (l' := [(0, .ref 0), (1, .ref 1), (2, .ref 2), (3, .ref 3), (4, .int (nI s)), (5, .int (nI t)), (6, .int n6), (7, .int (l - l)), (8, .int (nI (i + 1)))]) rfl ?_
          exact ih (i + 1) _ _ (by omega) (h.upd (by omega) ht (by omega) (by omega)) (by omega) (by omega) kk2
        · skip
          have := mt ile.mpr e
          have hz : (if f (i * 4 + t) < l then f (i * 4 + t) else l) = f (i * 4 + t) := (if_pos (Int32.not_le.mp e))
          have kk2 : gW K_Lw_setter sc { frames := 3, locals := 67, cells := 0, slots := 0 } n0 E 0 0 151 [(0, .ref 0), (1, .ref 1), (2, .ref 2), (3, .ref 3), (4, .int (nI s)), (5, .int (nI t)), (6, .int n6)] [] ([cI 24 (tkL t n (i + 1) (upd f (i * 4 + t) (f (i * 4 + t) - (f (i * 4 + t)))) (l - (f (i * 4 + t)))), cI 50 g, cI 6 v, cI 16 cc]) := by
            have e1 : tkL t (n + 1) i f l = tkL t n (i + 1) (upd f (i * 4 + t) (f (i * 4 + t) - (if f (i * 4 + t) < l then f (i * 4 + t) else l))) (l - (if f (i * 4 + t) < l then f (i * 4 + t) else l)) := (if_neg c).trans (if_neg d2)
            rw [hz] at e1
            rw [e1] at kk
            exact kk
          have s1 : (f (i * 4 + t) - (f (i * 4 + t))).toInt = (f (i * 4 + t)).toInt - (f (i * 4 + t)).toInt := is (by omega) (by omega)
          have s2 : (l - (f (i * 4 + t))).toInt = l.toInt - (f (i * 4 + t)).toInt := is (by omega) (by omega)
          refine gW_b D_Lw_setter 62 8 (pc' := 122) (l' := [(0, .ref 0), (1, .ref 1), (2, .ref 2), (3, .ref 3), (4, .int (nI s)), (5, .int (nI t)), (6, .int n6), (7, .int l), (8, .int (nI i))]) (st' := [.int (f (((4 * (nI i)) + (nI t)).toNatClampNeg))]) (h' := [cI 24 f, cI 50 g, cI 6 v, cI 16 cc]) (P := vp_in ((4 * (nI i)) + (nI t)) 24 ∧ True) rfl ⟨(gvin (gadd (gmul2 (gk 4) (rfl : nI i = nI i)) (rfl : nI t = nI t)) (by omega) (by omega)), trivial⟩ ?_
          rw [show ((4 * (nI i)) + (nI t)).toNatClampNeg = ((i * 4) + t) from gclp (gadd (gmul2 (gk 4) (rfl : nI i = nI i)) (rfl : nI t = nI t)) (by omega)]
          refine gW_b D_Lw_setter 71 18 (pc' := 73) (l' := [(0, .ref 0), (1, .ref 1), (2, .ref 2), (3, .ref 3), (4, .int (nI s)), (5, .int (nI t)), (6, .int n6), (7, .int (l - (f (((i * 4) + t))))), (8, .int ((nI i) + 1)), (9, .int (f (((i * 4) + t))))]) (st' := []) (h' := [cI 24 (upd f (((4 * (nI i)) + (nI t)).toNatClampNeg) ((f (((4 * (nI i)) + (nI t)).toNatClampNeg)) - (f (((i * 4) + t))))), cI 50 g, cI 6 v, cI 16 cc]) (P := vp_in ((4 * (nI i)) + (nI t)) 24 ∧ vp_in ((4 * (nI i)) + (nI t)) 24 ∧ True) rfl ⟨(gvin (gadd (gmul2 (gk 4) (rfl : nI i = nI i)) (rfl : nI t = nI t)) (by omega) (by omega)), (gvin (gadd (gmul2 (gk 4) (rfl : nI i = nI i)) (rfl : nI t = nI t)) (by omega) (by omega)), trivial⟩ ?_
          rw [show ((4 * (nI i)) + (nI t)).toNatClampNeg = ((i * 4) + t) from gclp (gadd (gmul2 (gk 4) (rfl : nI i = nI i)) (rfl : nI t = nI t)) (by omega)]
          rw [show ((nI i) + 1 : Int32) = nI (i + 1) from (gadd (rfl : nI i = nI i) (gk 1))]
          refine gW_l [0, 1, 2, 3, 4, 5, 6, 7, 8] (l' := [(0, .ref 0), (1, .ref 1), (2, .ref 2), (3, .ref 3), (4, .int (nI s)), (5, .int (nI t)), (6, .int n6), (7, .int (l - (f (((i * 4) + t))))), (8, .int (nI (i + 1)))]) rfl ?_
          exact ih (i + 1) _ _ (by omega) (h.upd (by omega) ht (by omega) (by omega)) (by omega) (by omega) kk2
set_option maxRecDepth 20000 in
theorem l_set1 (D : gDom) (s : Nat) (hok : rOK D) (htr : trI (dTr D)) (hs : s < dSz D) (hw : ¬ dG D (s * 5 + 2) ≤ 0) (hR : ¬ rpI (dTr D) (tnx (dG D (s * 5 + 1))) 6 ≤ 0) {sc : Nat × (Nat → Int32)} {n0 : Nat} (hn0 : n0 ≤ 4) : gW K_Lw_setter sc { frames := 3, locals := 67, cells := 0, slots := 0 } n0 (gD (.inl (some (.int (lyV D s)))) [cI 24 (dTr (lyD D s)), cI 50 (dG (lyD D s)), cI 6 (dSt D), cI 16 (cF4 (dSh D) (dCu D) (dSw (lyD D s)) (dLa (lyD D s)))]) 0 0 66 [(0, .ref 0), (1, .ref 1), (2, .ref 2), (3, .ref 3), (4, .int (nI s)), (5, .int (nI (tnx (dG D (s * 5 + 1))))), (6, .int (lyN D s))] [] ([cI 24 (dTr D), cI 50 (dG D), cI 6 (dSt D), cI 16 (cF4 (dSh D) (dCu D) (dSw D) (dLa D))]) := by
  obtain ⟨h10, hrow, h5, h51, h52, h4, h41, h42, h3, h31⟩ := id hok
  obtain ⟨⟨hT, ht4⟩, hC, hc5⟩ := hrow s hs
  obtain ⟨n, n1, n99, -, -, e1, -, -⟩ := lyN_n hok hs hw hR
  have hn : (lyN D s).toInt = (n : Int) := by rw [e1]; exact iN (by omega)
  refine gW_b D_Lw_setter 40 4 (pc' := 73) (l' := [(0, .ref 0), (1, .ref 1), (2, .ref 2), (3, .ref 3), (4, .int (nI s)), (5, .int (nI (tnx (dG D (s * 5 + 1))))), (6, .int (lyN D s)), (7, .int (lyN D s)), (8, .int 0)]) (st' := []) (h' := [cI 24 (dTr D), cI 50 (dG D), cI 6 (dSt D), cI 16 (cF4 (dSh D) (dCu D) (dSw D) (dLa D))]) (P := True) rfl trivial ?_
  refine l_set2 (dG D) (dSt D) _ s (tnx (dG D (s * 5 + 1))) (lyN D s) ht4 6 0 (dTr D) (lyN D s) rfl htr (by omega) (by omega) ?_
  rw [tkL_r ht4 6 0 (dTr D) (lyN D s) rfl htr (by omega) (by omega)]
  exact l_set3 D s hok htr hs hw hR hn0
set_option maxRecDepth 20000 in
theorem l_set0 (D : gDom) (s : Nat) (hok : rOK D) (htr : trI (dTr D)) (hs : s < dSz D) (hw : ¬ dG D (s * 5 + 2) ≤ 0) (hR : ¬ rpI (dTr D) (tnx (dG D (s * 5 + 1))) 6 ≤ 0) {sc : Nat × (Nat → Int32)} {n0 : Nat} (hn0 : n0 ≤ 4) : gW K_Lw_setter sc { frames := 3, locals := 67, cells := 0, slots := 0 } n0 (gD (.inl (some (.int (lyV D s)))) [cI 24 (dTr (lyD D s)), cI 50 (dG (lyD D s)), cI 6 (dSt D), cI 16 (cF4 (dSh D) (dCu D) (dSw (lyD D s)) (dLa (lyD D s)))]) 0 0 42 [(0, .ref 0), (1, .ref 1), (2, .ref 2), (3, .ref 3), (4, .int (nI s)), (5, .int (nI (tnx (dG D (s * 5 + 1))))), (6, .int (lyA (nI (tkN (tnx (dSt D 5)) (tnx (dG D (s * 5 + 2))))) (dSt D 4)))] [] ([cI 24 (dTr D), cI 50 (dG D), cI 6 (dSt D), cI 16 (cF4 (dSh D) (dCu D) (dSw D) (dLa D))]) := by
  obtain ⟨h10, hrow, h5, h51, h52, h4, h41, h42, h3, h31⟩ := id hok
  obtain ⟨⟨hT, ht4⟩, hC, hc5⟩ := hrow s hs
  have hln : lyN D s = lyA (lyA (nI (tkN (tnx (dSt D 5)) (tnx (dG D (s * 5 + 2))))) (dSt D 4)) (rpI (dTr D) (tnx (dG D (s * 5 + 1))) 6) := rfl
  refine gW_b D_Lw_setter 29 3 (pc' := 47) (l' := [(0, .ref 0), (1, .ref 1), (2, .ref 2), (3, .ref 3), (4, .int (nI s)), (5, .int (nI (tnx (dG D (s * 5 + 1))))), (6, .int (lyA (nI (tkN (tnx (dSt D 5)) (tnx (dG D (s * 5 + 2))))) (dSt D 4)))]) (st' := [.int (nI (tnx (dG D (s * 5 + 1)))), .ref 0, .int (lyA (nI (tkN (tnx (dSt D 5)) (tnx (dG D (s * 5 + 2))))) (dSt D 4))]) (h' := [cI 24 (dTr D), cI 50 (dG D), cI 6 (dSt D), cI 16 (cF4 (dSh D) (dCu D) (dSw D) (dLa D))]) (P := True) rfl trivial ?_
  refine gW_callS (m_pureL (dTr D) (tnx (dG D (s * 5 + 1))) ht4 htr) lk_Lw_27 [0] (gdec_at D_Lw_setter 32 rfl) (st := [.int (lyA (nI (tkN (tnx (dSt D 5)) (tnx (dG D (s * 5 + 2))))) (dSt D 4))]) rfl rfl ⟨rfl, rfl⟩ (Nat.le_of_ble_eq_true rfl) (Nat.le_of_ble_eq_true rfl) ⟨Nat.le_of_ble_eq_true rfl, Nat.le_of_ble_eq_true rfl⟩ ⟨Nat.le_of_ble_eq_true rfl, Nat.le_of_ble_eq_true rfl⟩ (gAft_r rfl rfl (h' := [cI 24 (dTr D), cI 50 (dG D), cI 6 (dSt D), cI 16 (cF4 (dSh D) (dCu D) (dSw D) (dLa D))]) (st' := [.int (rpI (dTr D) (tnx (dG D (s * 5 + 1))) 6), .int (lyA (nI (tkN (tnx (dSt D 5)) (tnx (dG D (s * 5 + 2))))) (dSt D 4))]) (pc' := 50) (cs' := 0) (ss' := 0) rfl rfl rfl rfl rfl ?_)
  refine gW_ic_le (gdec_at D_Lw_setter 33 rfl) (tgt := 62) rfl (fun c => ?_) (fun c => ?_)
  · skip
    refine gW_b D_Lw_setter 38 2 (pc' := 66) (l' := [(0, .ref 0), (1, .ref 1), (2, .ref 2), (3, .ref 3), (4, .int (nI s)), (5, .int (nI (tnx (dG D (s * 5 + 1))))), (6, .int (lyA (nI (tkN (tnx (dSt D 5)) (tnx (dG D (s * 5 + 2))))) (dSt D 4)))]) (st' := []) (h' := [cI 24 (dTr D), cI 50 (dG D), cI 6 (dSt D), cI 16 (cF4 (dSh D) (dCu D) (dSw D) (dLa D))]) (P := True) rfl trivial ?_
    rw [show lyA (nI (tkN (tnx (dSt D 5)) (tnx (dG D (s * 5 + 2))))) (dSt D 4) = lyN D s from (lyA_1 c).symm]
    exact l_set1 D s hok htr hs hw hR hn0
  · skip
    refine gW_b D_Lw_setter 34 2 (pc' := 56) (l' := [(0, .ref 0), (1, .ref 1), (2, .ref 2), (3, .ref 3), (4, .int (nI s)), (5, .int (nI (tnx (dG D (s * 5 + 1))))), (6, .int (lyA (nI (tkN (tnx (dSt D 5)) (tnx (dG D (s * 5 + 2))))) (dSt D 4)))]) (st' := [.int (nI (tnx (dG D (s * 5 + 1)))), .ref 0]) (h' := [cI 24 (dTr D), cI 50 (dG D), cI 6 (dSt D), cI 16 (cF4 (dSh D) (dCu D) (dSw D) (dLa D))]) (P := True) rfl trivial ?_
    refine gW_callS (m_pureL (dTr D) (tnx (dG D (s * 5 + 1))) ht4 htr) lk_Lw_27 [0] (gdec_at D_Lw_setter 36 rfl) (st := []) rfl rfl ⟨rfl, rfl⟩ (Nat.le_of_ble_eq_true rfl) (Nat.le_of_ble_eq_true rfl) ⟨Nat.le_of_ble_eq_true rfl, Nat.le_of_ble_eq_true rfl⟩ ⟨Nat.le_of_ble_eq_true rfl, Nat.le_of_ble_eq_true rfl⟩ (gAft_r rfl rfl (h' := [cI 24 (dTr D), cI 50 (dG D), cI 6 (dSt D), cI 16 (cF4 (dSh D) (dCu D) (dSw D) (dLa D))]) (st' := [.int (rpI (dTr D) (tnx (dG D (s * 5 + 1))) 6)]) (pc' := 59) (cs' := 0) (ss' := 0) rfl rfl rfl rfl rfl ?_)
    refine gW_b D_Lw_setter 37 1 (pc' := 64) (l' := [(0, .ref 0), (1, .ref 1), (2, .ref 2), (3, .ref 3), (4, .int (nI s)), (5, .int (nI (tnx (dG D (s * 5 + 1))))), (6, .int (lyA (nI (tkN (tnx (dSt D 5)) (tnx (dG D (s * 5 + 2))))) (dSt D 4)))]) (st' := [.int (rpI (dTr D) (tnx (dG D (s * 5 + 1))) 6)]) (h' := [cI 24 (dTr D), cI 50 (dG D), cI 6 (dSt D), cI 16 (cF4 (dSh D) (dCu D) (dSw D) (dLa D))]) (P := True) rfl trivial ?_
    refine gW_b D_Lw_setter 39 1 (pc' := 66) (l' := [(0, .ref 0), (1, .ref 1), (2, .ref 2), (3, .ref 3), (4, .int (nI s)), (5, .int (nI (tnx (dG D (s * 5 + 1))))), (6, .int (rpI (dTr D) (tnx (dG D (s * 5 + 1))) 6))]) (st' := []) (h' := [cI 24 (dTr D), cI 50 (dG D), cI 6 (dSt D), cI 16 (cF4 (dSh D) (dCu D) (dSw D) (dLa D))]) (P := True) rfl trivial ?_
    rw [show rpI (dTr D) (tnx (dG D (s * 5 + 1))) 6 = lyN D s from (lyA_2 c).symm]
    exact l_set1 D s hok htr hs hw hR hn0
set_option maxRecDepth 20000 in
theorem m_setterL (D : gDom) (s : Nat) (hok : rOK D) (htr : trI (dTr D)) (hs : s < dSz D) (hw : ¬ dG D (s * 5 + 2) ≤ 0) (hR : ¬ rpI (dTr D) (tnx (dG D (s * 5 + 1))) 6 ≤ 0) : gM K_Lw_setter { frames := 3, locals := 67, cells := 0, slots := 0 } [.ref 0, .ref 1, .ref 2, .ref 3, .int (nI s)] ([cI 24 (dTr D), cI 50 (dG D), cI 6 (dSt D), cI 16 (cF4 (dSh D) (dCu D) (dSw D) (dLa D))]) (gD (.inl (some (.int (lyV D s)))) ([cI 24 (dTr (lyD D s)), cI 50 (dG (lyD D s)), cI 6 (dSt D), cI 16 (cF4 (dSh D) (dCu D) (dSw (lyD D s)) (dLa (lyD D s)))])) := by
  refine gM_of rfl rfl (Nat.le_of_ble_eq_true rfl) (fun sc => ?_)
  obtain ⟨h10, hrow, h5, h51, h52, h4, h41, h42, h3, h31⟩ := id hok
  obtain ⟨⟨hT, ht4⟩, hC, hc5⟩ := hrow s hs
  have hc1 : 1 ≤ tnx (dG D (s * 5 + 2)) := nI_pos1 (hC ▸ hw)
  refine gW_b D_Lw_setter 0 16 (pc' := 19) (l' := [(0, .ref 0), (1, .ref 1), (2, .ref 2), (3, .ref 3), (4, .int (nI s)), (5, .int ((dG D) (((5 * (nI s)) + 1).toNatClampNeg)))]) (st' := [.int ((dG D) (((5 * (nI s)) + 2).toNatClampNeg)), .ref 2]) (h' := [cI 24 (dTr D), cI 50 (dG D), cI 6 (dSt D), cI 16 (cF4 (dSh D) (dCu D) (dSw D) (dLa D))]) (P := vp_in ((5 * (nI s)) + 1) 50 ∧ vp_in ((5 * (nI s)) + 2) 50 ∧ True) rfl ⟨(gvin (gadd (gmul2 (gk 5) (rfl : nI s = nI s)) (gk 1)) (by omega) (by omega)), (gvin (gadd (gmul2 (gk 5) (rfl : nI s = nI s)) (gk 2)) (by omega) (by omega)), trivial⟩ ?_
  rw [show ((5 * (nI s)) + 1).toNatClampNeg = ((s * 5) + 1) from gclp (gadd (gmul2 (gk 5) (rfl : nI s = nI s)) (gk 1)) (by omega)]
  rw [show ((5 * (nI s)) + 2).toNatClampNeg = ((s * 5) + 2) from gclp (gadd (gmul2 (gk 5) (rfl : nI s = nI s)) (gk 2)) (by omega)]
  rw [show ((dG D) (((s * 5) + 1)) : Int32) = nI (tnx (dG D (s * 5 + 1))) from hT]
  rw [show ((dG D) (((s * 5) + 2)) : Int32) = nI (tnx (dG D (s * 5 + 2))) from hC]
  refine gW_callS (m_takenL (dSt D) (tnx (dSt D 5)) (tnx (dG D (s * 5 + 2))) h5 h51 h52 hc1 hc5) lk_Lw_24 [2] (gdec_at D_Lw_setter 16 rfl) (st := []) rfl rfl ⟨rfl, rfl⟩ (Nat.le_of_ble_eq_true rfl) (Nat.le_of_ble_eq_true rfl) ⟨Nat.le_of_ble_eq_true rfl, Nat.le_of_ble_eq_true rfl⟩ ⟨Nat.le_of_ble_eq_true rfl, Nat.le_of_ble_eq_true rfl⟩ (gAft_r rfl rfl (h' := [cI 24 (dTr D), cI 50 (dG D), cI 6 (dSt D), cI 16 (cF4 (dSh D) (dCu D) (dSw D) (dLa D))]) (st' := [.int (nI (tkN (tnx (dSt D 5)) (tnx (dG D (s * 5 + 2)))))]) (pc' := 22) (cs' := 0) (ss' := 0) rfl rfl rfl rfl rfl ?_)
  refine gW_b D_Lw_setter 17 5 (pc' := 29) (l' := [(0, .ref 0), (1, .ref 1), (2, .ref 2), (3, .ref 3), (4, .int (nI s)), (5, .int (nI (tnx (dG D (s * 5 + 1))))), (6, .int (nI (tkN (tnx (dSt D 5)) (tnx (dG D (s * 5 + 2))))))]) (st' := [.int ((dSt D) 4), .int (nI (tkN (tnx (dSt D 5)) (tnx (dG D (s * 5 + 2)))))]) (h' := [cI 24 (dTr D), cI 50 (dG D), cI 6 (dSt D), cI 16 (cF4 (dSh D) (dCu D) (dSw D) (dLa D))]) (P := vp_in 4 6 ∧ True) rfl ⟨(gvl 4 6 (by omega) (by omega)), trivial⟩ ?_
  refine gW_ic_le (gdec_at D_Lw_setter 22 rfl) (tgt := 38) rfl (fun c => ?_) (fun c => ?_)
  · skip
    refine gW_b D_Lw_setter 27 2 (pc' := 42) (l' := [(0, .ref 0), (1, .ref 1), (2, .ref 2), (3, .ref 3), (4, .int (nI s)), (5, .int (nI (tnx (dG D (s * 5 + 1))))), (6, .int (nI (tkN (tnx (dSt D 5)) (tnx (dG D (s * 5 + 2))))))]) (st' := []) (h' := [cI 24 (dTr D), cI 50 (dG D), cI 6 (dSt D), cI 16 (cF4 (dSh D) (dCu D) (dSw D) (dLa D))]) (P := True) rfl trivial ?_
    rw [show nI (tkN (tnx (dSt D 5)) (tnx (dG D (s * 5 + 2)))) = lyA (nI (tkN (tnx (dSt D 5)) (tnx (dG D (s * 5 + 2))))) (dSt D 4) from (lyA_1 c).symm]
    exact l_set0 D s hok htr hs hw hR (Nat.le_refl 4)
  · skip
    refine gW_b D_Lw_setter 23 4 (pc' := 40) (l' := [(0, .ref 0), (1, .ref 1), (2, .ref 2), (3, .ref 3), (4, .int (nI s)), (5, .int (nI (tnx (dG D (s * 5 + 1))))), (6, .int (nI (tkN (tnx (dSt D 5)) (tnx (dG D (s * 5 + 2))))))]) (st' := [.int ((dSt D) 4)]) (h' := [cI 24 (dTr D), cI 50 (dG D), cI 6 (dSt D), cI 16 (cF4 (dSh D) (dCu D) (dSw D) (dLa D))]) (P := vp_in 4 6 ∧ True) rfl ⟨(gvl 4 6 (by omega) (by omega)), trivial⟩ ?_
    refine gW_b D_Lw_setter 28 1 (pc' := 42) (l' := [(0, .ref 0), (1, .ref 1), (2, .ref 2), (3, .ref 3), (4, .int (nI s)), (5, .int (nI (tnx (dG D (s * 5 + 1))))), (6, .int ((dSt D) 4))]) (st' := []) (h' := [cI 24 (dTr D), cI 50 (dG D), cI 6 (dSt D), cI 16 (cF4 (dSh D) (dCu D) (dSw D) (dLa D))]) (P := True) rfl trivial ?_
    have h0 := l_set0 D s hok htr hs hw hR (sc := sc) (Nat.le_refl 4)
    rw [show lyA (nI (tkN (tnx (dSt D 5)) (tnx (dG D (s * 5 + 2))))) (dSt D 4) = dSt D 4 from lyA_2 c] at h0
    exact h0
