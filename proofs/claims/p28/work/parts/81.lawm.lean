/-! THE LAW's small methods. Printed by wip/p28/meths28.py -/
set_option maxRecDepth 20000 in
theorem m_sum (f : Nat → Int32) (a : Nat) (ha : a < 6) : gM K_Lw_sum { frames := 0, locals := 0, cells := 0, slots := 0 } [.ref 0, .int (nI a)] ([cI 24 f]) (gD (.inl (some (.int (hA f a)))) ([cI 24 f])) := by
  refine gM_of rfl rfl (Nat.le_of_ble_eq_true rfl) (fun sc => ?_)
  refine gW_b D_Lw_sum 0 29 (pc' := 29) (l' := [(0, .ref 0), (1, .int (nI a))]) (st' := [.int ((((f ((4 * (nI a)).toNatClampNeg)) + (f (((4 * (nI a)) + 1).toNatClampNeg))) + (f (((4 * (nI a)) + 2).toNatClampNeg))) + (f (((4 * (nI a)) + 3).toNatClampNeg)))]) (h' := [cI 24 f]) (P := vp_in (4 * (nI a)) 24 ∧ vp_in ((4 * (nI a)) + 1) 24 ∧ vp_in ((4 * (nI a)) + 2) 24 ∧ vp_in ((4 * (nI a)) + 3) 24 ∧ True) rfl ⟨(gvin (gmul2 (gk 4) (rfl : nI a = nI a)) (by omega) (by omega)), (gvin (gadd (gmul2 (gk 4) (rfl : nI a = nI a)) (gk 1)) (by omega) (by omega)), (gvin (gadd (gmul2 (gk 4) (rfl : nI a = nI a)) (gk 2)) (by omega) (by omega)), (gvin (gadd (gmul2 (gk 4) (rfl : nI a = nI a)) (gk 3)) (by omega) (by omega)), trivial⟩ ?_
  rw [show (4 * (nI a)).toNatClampNeg = (a * 4) from gclp (gmul2 (gk 4) (rfl : nI a = nI a)) (by omega)]
  rw [show ((4 * (nI a)) + 1).toNatClampNeg = ((a * 4) + 1) from gclp (gadd (gmul2 (gk 4) (rfl : nI a = nI a)) (gk 1)) (by omega)]
  rw [show ((4 * (nI a)) + 2).toNatClampNeg = ((a * 4) + 2) from gclp (gadd (gmul2 (gk 4) (rfl : nI a = nI a)) (gk 2)) (by omega)]
  rw [show ((4 * (nI a)) + 3).toNatClampNeg = ((a * 4) + 3) from gclp (gadd (gmul2 (gk 4) (rfl : nI a = nI a)) (gk 3)) (by omega)]
  rw [lsum_e]
  exact gW_iret (gdec_at D_Lw_sum 29 rfl) rfl rfl (Nat.le_of_ble_eq_true rfl) ⟨rfl, rfl⟩ (Nat.le_of_ble_eq_true rfl) (Nat.le_of_ble_eq_true rfl)
theorem l_isMixed (f : Nat → Int32) (a : Nat) (ha : a < 6) {sc : Nat × (Nat → Int32)} {n0 : Nat} {E : gO → gH → Prop} (kk : gW K_Lw_isMixed sc { frames := 1, locals := 21, cells := 0, slots := 0 } n0 E 0 0 38 [(0, .ref 0), (1, .int (nI a)), (2, .int (mx f a 4)), (3, .int (nI 4))] [] ([cI 24 f])) : ∀ (n i : Nat), i + n = 4 → gW K_Lw_isMixed sc { frames := 1, locals := 21, cells := 0, slots := 0 } n0 E 0 0 4 [(0, .ref 0), (1, .int (nI a)), (2, .int (mx f a i)), (3, .int (nI i))] [] ([cI 24 f]) := by
  intro n
  induction n with
  | zero =>
    intro i hi
    obtain rfl : 4 = i := by omega
    refine gW_b D_Lw_isMixed 4 2 (pc' := 6) (l' := [(0, .ref 0), (1, .int (nI a)), (2, .int (mx f a 4)), (3, .int (nI 4))]) (st' := [.int 4, .int (nI 4)]) (h' := [cI 24 f]) (P := True) rfl trivial ?_
    refine gW_ic_ge (gdec_at D_Lw_isMixed 6 rfl) (tgt := 38) rfl (fun _ => ?_) (fun cq => absurd ((gle (gk 4) (rfl : nI 4 = nI 4) (by omega) (by omega)).mpr (by omega)) cq)
    exact kk
  | succ n ih =>
    intro i hi
    refine gW_b D_Lw_isMixed 4 2 (pc' := 6) (l' := [(0, .ref 0), (1, .int (nI a)), (2, .int (mx f a i)), (3, .int (nI i))]) (st' := [.int 4, .int (nI i)]) (h' := [cI 24 f]) (P := True) rfl trivial ?_
    refine gW_ic_ge (gdec_at D_Lw_isMixed 6 rfl) (tgt := 38) rfl (fun cq => absurd cq (mt (gle (gk 4) (rfl : nI i = nI i) (by omega) (by omega)).mp (by omega))) (fun _ => ?_)
    refine gW_b D_Lw_isMixed 7 8 (pc' := 17) (l' := [(0, .ref 0), (1, .int (nI a)), (2, .int (mx f a i)), (3, .int (nI i))]) (st' := [.int (mx f a i), .int (f (((4 * (nI a)) + (nI i)).toNatClampNeg))]) (h' := [cI 24 f]) (P := vp_in ((4 * (nI a)) + (nI i)) 24 ∧ True) rfl ⟨(gvin (gadd (gmul2 (gk 4) (rfl : nI a = nI a)) (rfl : nI i = nI i)) (by omega) (by omega)), trivial⟩ ?_
    rw [show ((4 * (nI a)) + (nI i)).toNatClampNeg = ((a * 4) + i) from gclp (gadd (gmul2 (gk 4) (rfl : nI a = nI a)) (rfl : nI i = nI i)) (by omega)]
    refine gW_ic_le (gdec_at D_Lw_isMixed 15 rfl) (tgt := 30) rfl (fun c => ?_) (fun c => ?_)
    · skip
      refine gW_b D_Lw_isMixed 24 4 (pc' := 4) (l' := [(0, .ref 0), (1, .int (nI a)), (2, .int (mx f a i)), (3, .int ((nI i) + 1))]) (st' := []) (h' := [cI 24 f]) (P := True) rfl trivial ?_
      rw [show ((nI i) + 1 : Int32) = nI (i + 1) from (gadd (rfl : nI i = nI i) (gk 1))]
      rw [show mx f a i = mx f a (i + 1) from (if_pos c).symm]
      exact ih (i + 1) (by omega)
    · skip
      refine gW_b D_Lw_isMixed 16 8 (pc' := 31) (l' := [(0, .ref 0), (1, .int (nI a)), (2, .int (mx f a i)), (3, .int (nI i))]) (st' := [.int (f (((4 * (nI a)) + (nI i)).toNatClampNeg))]) (h' := [cI 24 f]) (P := vp_in ((4 * (nI a)) + (nI i)) 24 ∧ True) rfl ⟨(gvin (gadd (gmul2 (gk 4) (rfl : nI a = nI a)) (rfl : nI i = nI i)) (by omega) (by omega)), trivial⟩ ?_
      rw [show ((4 * (nI a)) + (nI i)).toNatClampNeg = ((a * 4) + i) from gclp (gadd (gmul2 (gk 4) (rfl : nI a = nI a)) (rfl : nI i = nI i)) (by omega)]
      refine gW_b D_Lw_isMixed 25 3 (pc' := 4) (l' := [(0, .ref 0), (1, .int (nI a)), (2, .int (f (((a * 4) + i)))), (3, .int ((nI i) + 1))]) (st' := []) (h' := [cI 24 f]) (P := True) rfl trivial ?_
      rw [show ((nI i) + 1 : Int32) = nI (i + 1) from (gadd (rfl : nI i = nI i) (gk 1))]
      rw [show f (a * 4 + i) = mx f a (i + 1) from (if_neg c).symm]
      exact ih (i + 1) (by omega)
set_option maxRecDepth 20000 in
theorem m_isMixed (f : Nat → Int32) (a : Nat) (ha : a < 6) (h : trI f) : gM K_Lw_isMixed { frames := 1, locals := 21, cells := 0, slots := 0 } [.ref 0, .int (nI a)] ([cI 24 f]) (gD (.inl (some (.int (bI (mxb f a))))) ([cI 24 f])) := by
  refine gM_of rfl rfl (Nat.le_of_ble_eq_true rfl) (fun sc => ?_)
  refine gW_b D_Lw_isMixed 0 4 (pc' := 4) (l' := [(0, .ref 0), (1, .int (nI a)), (2, .int 0), (3, .int 0)]) (st' := []) (h' := [cI 24 f]) (P := True) rfl trivial ?_
  refine l_isMixed f a ha ?_ 4 0 rfl
  refine gW_b D_Lw_isMixed 28 3 (pc' := 41) (l' := [(0, .ref 0), (1, .int (nI a)), (2, .int (mx f a 4)), (3, .int (nI 4))]) (st' := [.int (nI a), .ref 0, .int (mx f a 4)]) (h' := [cI 24 f]) (P := True) rfl trivial ?_
  refine gW_callS (m_sum f a (by omega)) lk_Lw_10 [0] (gdec_at D_Lw_isMixed 31 rfl) (st := [.int (mx f a 4)]) rfl rfl ⟨rfl, rfl⟩ (Nat.le_of_ble_eq_true rfl) (Nat.le_of_ble_eq_true rfl) ⟨Nat.le_of_ble_eq_true rfl, Nat.le_of_ble_eq_true rfl⟩ ⟨Nat.le_of_ble_eq_true rfl, Nat.le_of_ble_eq_true rfl⟩ (gAft_r rfl rfl (h' := [cI 24 f]) (st' := [.int (hA f a), .int (mx f a 4)]) (pc' := 44) (cs' := 0) (ss' := 0) rfl rfl rfl rfl rfl ?_)
  refine gW_ic_ge (gdec_at D_Lw_isMixed 32 rfl) (tgt := 51) rfl (fun c => ?_) (fun c => ?_)
  · skip
    rw [mxb_f (mt (mx_r h ha).mpr (Int32.not_lt.mpr c))]
    refine gW_b D_Lw_isMixed 35 1 (pc' := 52) (l' := [(0, .ref 0), (1, .int (nI a)), (2, .int (mx f a 4)), (3, .int (nI 4))]) (st' := [.int 0]) (h' := [cI 24 f]) (P := True) rfl trivial ?_
    exact gW_iret (gdec_at D_Lw_isMixed 36 rfl) rfl rfl (Nat.le_of_ble_eq_true rfl) ⟨rfl, rfl⟩ (Nat.le_of_ble_eq_true rfl) (Nat.le_of_ble_eq_true rfl)
  · skip
    rw [mxb_t ((mx_r h ha).mp (Int32.not_le.mp c))]
    refine gW_b D_Lw_isMixed 33 2 (pc' := 52) (l' := [(0, .ref 0), (1, .int (nI a)), (2, .int (mx f a 4)), (3, .int (nI 4))]) (st' := [.int 1]) (h' := [cI 24 f]) (P := True) rfl trivial ?_
    exact gW_iret (gdec_at D_Lw_isMixed 36 rfl) rfl rfl (Nat.le_of_ble_eq_true rfl) ⟨rfl, rfl⟩ (Nat.le_of_ble_eq_true rfl) (Nat.le_of_ble_eq_true rfl)
set_option maxRecDepth 20000 in
theorem l_pourL (f g : Nat → Int32) (a b t : Nat) (r m : Int32) (ha : a < 6) (hb : b < 6) (ht : t < 4) {sc : Nat × (Nat → Int32)} {n0 : Nat} (hn0 : n0 ≤ 2) : gW K_Lw_pour sc { frames := 1, locals := 21, cells := 0, slots := 0 } n0 (gD (.inl (some (.int m))) [cI 24 (pourF f a b t m), cI 6 g]) 0 0 46 [(0, .ref 0), (1, .ref 1), (2, .int (nI a)), (3, .int (nI b)), (4, .int (nI t)), (5, .int r)] [.int m] ([cI 24 f, cI 6 g]) := by
  refine gW_b D_Lw_pour 30 24 (pc' := 76) (l' := [(0, .ref 0), (1, .ref 1), (2, .int (nI a)), (3, .int (nI b)), (4, .int (nI t)), (5, .int r), (6, .int m)]) (st' := [.int m]) (h' := [cI 24 (upd (upd f (((4 * (nI a)) + (nI t)).toNatClampNeg) ((f (((4 * (nI a)) + (nI t)).toNatClampNeg)) - m)) (((4 * (nI b)) + (nI t)).toNatClampNeg) (((upd f (((4 * (nI a)) + (nI t)).toNatClampNeg) ((f (((4 * (nI a)) + (nI t)).toNatClampNeg)) - m)) (((4 * (nI b)) + (nI t)).toNatClampNeg)) + m)), cI 6 g]) (P := vp_in ((4 * (nI a)) + (nI t)) 24 ∧ vp_in ((4 * (nI a)) + (nI t)) 24 ∧ vp_in ((4 * (nI b)) + (nI t)) 24 ∧ vp_in ((4 * (nI b)) + (nI t)) 24 ∧ True) rfl ⟨(gvin (gadd (gmul2 (gk 4) (rfl : nI a = nI a)) (rfl : nI t = nI t)) (by omega) (by omega)), (gvin (gadd (gmul2 (gk 4) (rfl : nI a = nI a)) (rfl : nI t = nI t)) (by omega) (by omega)), (gvin (gadd (gmul2 (gk 4) (rfl : nI b = nI b)) (rfl : nI t = nI t)) (by omega) (by omega)), (gvin (gadd (gmul2 (gk 4) (rfl : nI b = nI b)) (rfl : nI t = nI t)) (by omega) (by omega)), trivial⟩ ?_
  rw [show ((4 * (nI a)) + (nI t)).toNatClampNeg = ((a * 4) + t) from gclp (gadd (gmul2 (gk 4) (rfl : nI a = nI a)) (rfl : nI t = nI t)) (by omega)]
  rw [show ((4 * (nI b)) + (nI t)).toNatClampNeg = ((b * 4) + t) from gclp (gadd (gmul2 (gk 4) (rfl : nI b = nI b)) (rfl : nI t = nI t)) (by omega)]
  rw [pourL_e]
  exact gW_iret (gdec_at D_Lw_pour 54 rfl) rfl rfl hn0 ⟨rfl, rfl⟩ (Nat.le_of_ble_eq_true rfl) (Nat.le_of_ble_eq_true rfl)
set_option maxRecDepth 20000 in
theorem m_pourL (f g : Nat → Int32) (a b t : Nat) (ha : a < 6) (hb : b < 6) (ht : t < 4) (h : trI f) : gM K_Lw_pour { frames := 1, locals := 21, cells := 0, slots := 0 } [.ref 0, .ref 1, .int (nI a), .int (nI b), .int (nI t)] ([cI 24 f, cI 6 g]) (gD (.inl (some (.int (pmI f a t (frI f b (g 1)))))) ([cI 24 (pourF f a b t (pmI f a t (frI f b (g 1)))), cI 6 g])) := by
  refine gM_of rfl rfl (Nat.le_of_ble_eq_true rfl) (fun sc => ?_)
  have hz := prL_r h (b := b) ha ht (g 1)
  refine gW_b D_Lw_pour 0 5 (pc' := 5) (l' := [(0, .ref 0), (1, .ref 1), (2, .int (nI a)), (3, .int (nI b)), (4, .int (nI t))]) (st' := [.int (nI b), .ref 0, .int (g 1)]) (h' := [cI 24 f, cI 6 g]) (P := vp_in 1 6 ∧ True) rfl ⟨(gvl 1 6 (by omega) (by omega)), trivial⟩ ?_
  refine gW_callS (m_sum f b (by omega)) lk_Lw_10 [0] (gdec_at D_Lw_pour 5 rfl) (st := [.int (g 1)]) rfl rfl ⟨rfl, rfl⟩ (Nat.le_of_ble_eq_true rfl) (Nat.le_of_ble_eq_true rfl) ⟨Nat.le_of_ble_eq_true rfl, Nat.le_of_ble_eq_true rfl⟩ ⟨Nat.le_of_ble_eq_true rfl, Nat.le_of_ble_eq_true rfl⟩ (gAft_r rfl rfl (h' := [cI 24 f, cI 6 g]) (st' := [.int (hA f b), .int (g 1)]) (pc' := 8) (cs' := 0) (ss' := 0) rfl rfl rfl rfl rfl ?_)
  refine gW_b D_Lw_pour 6 3 (pc' := 13) (l' := [(0, .ref 0), (1, .ref 1), (2, .int (nI a)), (3, .int (nI b)), (4, .int (nI t)), (5, .int ((g 1) - (hA f b)))]) (st' := [.int ((g 1) - (hA f b))]) (h' := [cI 24 f, cI 6 g]) (P := True) rfl trivial ?_
  refine gW_if_ge (gdec_at D_Lw_pour 9 rfl) (tgt := 20) rfl (fun c => ?_) (fun c => ?_)
  · skip
    refine gW_b D_Lw_pour 12 8 (pc' := 30) (l' := [(0, .ref 0), (1, .ref 1), (2, .int (nI a)), (3, .int (nI b)), (4, .int (nI t)), (5, .int ((g 1) - (hA f b)))]) (st' := [.int (f (((4 * (nI a)) + (nI t)).toNatClampNeg)), .int ((g 1) - (hA f b))]) (h' := [cI 24 f, cI 6 g]) (P := vp_in ((4 * (nI a)) + (nI t)) 24 ∧ True) rfl ⟨(gvin (gadd (gmul2 (gk 4) (rfl : nI a = nI a)) (rfl : nI t = nI t)) (by omega) (by omega)), trivial⟩ ?_
    rw [show ((4 * (nI a)) + (nI t)).toNatClampNeg = ((a * 4) + t) from gclp (gadd (gmul2 (gk 4) (rfl : nI a = nI a)) (rfl : nI t = nI t)) (by omega)]
    refine gW_ic_ge (gdec_at D_Lw_pour 20 rfl) (tgt := 38) rfl (fun d => ?_) (fun d => ?_)
    · skip
      refine gW_b D_Lw_pour 23 7 (pc' := 46) (l' := [(0, .ref 0), (1, .ref 1), (2, .int (nI a)), (3, .int (nI b)), (4, .int (nI t)), (5, .int ((g 1) - (hA f b)))]) (st' := [.int (f (((4 * (nI a)) + (nI t)).toNatClampNeg))]) (h' := [cI 24 f, cI 6 g]) (P := vp_in ((4 * (nI a)) + (nI t)) 24 ∧ True) rfl ⟨(gvin (gadd (gmul2 (gk 4) (rfl : nI a = nI a)) (rfl : nI t = nI t)) (by omega) (by omega)), trivial⟩ ?_
      rw [show ((4 * (nI a)) + (nI t)).toNatClampNeg = ((a * 4) + t) from gclp (gadd (gmul2 (gk 4) (rfl : nI a = nI a)) (rfl : nI t = nI t)) (by omega)]
      rw [← hz, show prL f (g 1) a b t = f (a * 4 + t) from (if_neg (Int32.not_lt.mpr c)).trans (if_neg (Int32.not_lt.mpr d))]
      exact l_pourL f g a b t _ _ ha hb ht (Nat.le_refl 2)
    · skip
      refine gW_b D_Lw_pour 21 2 (pc' := 46) (l' := [(0, .ref 0), (1, .ref 1), (2, .int (nI a)), (3, .int (nI b)), (4, .int (nI t)), (5, .int ((g 1) - (hA f b)))]) (st' := [.int ((g 1) - (hA f b))]) (h' := [cI 24 f, cI 6 g]) (P := True) rfl trivial ?_
      rw [← hz, show prL f (g 1) a b t = g 1 - hA f b from (if_neg (Int32.not_lt.mpr c)).trans (if_pos (Int32.not_le.mp d))]
      exact l_pourL f g a b t _ _ ha hb ht (Nat.le_refl 2)
  · skip
    refine gW_b D_Lw_pour 10 2 (pc' := 46) (l' := [(0, .ref 0), (1, .ref 1), (2, .int (nI a)), (3, .int (nI b)), (4, .int (nI t)), (5, .int ((g 1) - (hA f b)))]) (st' := [.int 0]) (h' := [cI 24 f, cI 6 g]) (P := True) rfl trivial ?_
    rw [← hz, show prL f (g 1) a b t = 0 from if_pos (Int32.not_le.mp c)]
    exact l_pourL f g a b t _ _ ha hb ht (Nat.le_refl 2)
set_option maxRecDepth 20000 in
theorem l_takenL (g : Nat → Int32) (q c : Nat) (hg : g 5 = nI q) (hq : q = 0 ∨ 2 ≤ q) (hq9 : q ≤ 99) (hc : 1 ≤ c) (hc5 : c ≤ 500) {sc : Nat × (Nat → Int32)} {n0 : Nat} (hn0 : n0 ≤ 1) : ∀ (n j : Nat), c + j + n = tkN q c → gW K_Lw_taken sc { frames := 0, locals := 0, cells := 0, slots := 0 } n0 (gD (.inl (some (.int (nI (tkN q c))))) [cI 6 g]) 0 0 2 [(0, .ref 0), (1, .int (nI c)), (2, .int (nI (c + j)))] [] [cI 6 g] := by
  have hk := tkN_le (q := q) hc
  intro n
  induction n with
  | zero =>
    intro j hj
    have hi := tkN_iff (q := q) (j := j) hq hc
    by_cases h0 : q = 0
    · skip
      refine gW_b D_Lw_taken 2 3 (pc' := 5) (l' := [(0, .ref 0), (1, .int (nI c)), (2, .int (nI (c + j)))]) (st' := [.int (g 5)]) (h' := [cI 6 g]) (P := vp_in 5 6 ∧ True) rfl ⟨(gvl 5 6 (by omega) (by omega)), trivial⟩ ?_
      refine gW_if_le (gdec_at D_Lw_taken 5 rfl) (tgt := 25) rfl (fun _ => ?_) (fun cq => absurd ((gle hg (gk 0) (by omega) (by omega)).mpr (by omega)) cq)
      refine gW_b D_Lw_taken 17 1 (pc' := 26) (l' := [(0, .ref 0), (1, .int (nI c)), (2, .int (nI (c + j)))]) (st' := [.int (nI (c + j))]) (h' := [cI 6 g]) (P := True) rfl trivial ?_
      rw [show c + j = tkN q c by omega]
      exact gW_iret (gdec_at D_Lw_taken 18 rfl) rfl rfl hn0 ⟨rfl, rfl⟩ (Nat.le_of_ble_eq_true rfl) (Nat.le_of_ble_eq_true rfl)
    · skip
      have hd : ¬ g 5 = 0 := by rw [hg]; exact nI_ne0 (by omega) (by omega)
      have hle : (c + j) / q ≤ c + j := Nat.div_le_self _ _
      have hb : c + j - (c + j) / q ≤ c + j := Nat.sub_le _ _
      have hb2 : c + j - (c + j) / q < 2 ^ 31 := Nat.lt_of_le_of_lt hb (by omega)
      refine gW_b D_Lw_taken 2 3 (pc' := 5) (l' := [(0, .ref 0), (1, .int (nI c)), (2, .int (nI (c + j)))]) (st' := [.int (g 5)]) (h' := [cI 6 g]) (P := vp_in 5 6 ∧ True) rfl ⟨(gvl 5 6 (by omega) (by omega)), trivial⟩ ?_
      refine gW_if_le (gdec_at D_Lw_taken 5 rfl) (tgt := 25) rfl (fun cq => absurd cq (mt (gle hg (gk 0) (by omega) (by omega)).mp (by omega))) (fun _ => ?_)
      refine gW_b D_Lw_taken 6 8 (pc' := 16) (l' := [(0, .ref 0), (1, .int (nI c)), (2, .int (nI (c + j)))]) (st' := [.int (nI c), .int ((nI (c + j)) - ((nI (c + j)) / (g 5)))]) (h' := [cI 6 g]) (P := vp_in 5 6 ∧ ¬ (g 5) = 0 ∧ True) rfl ⟨(gvl 5 6 (by omega) (by omega)), (by assumption), trivial⟩ ?_
      refine gW_ic_ge (gdec_at D_Lw_taken 14 rfl) (tgt := 25) rfl (fun _ => ?_) (fun cq => absurd ((gle (rfl : nI c = nI c) (gsub (rfl : nI (c + j) = nI (c + j)) (gdivn (rfl : nI (c + j) = nI (c + j)) hg (by omega) (by omega) (by omega)) hle) (by omega) hb2).mpr (Nat.not_lt.mp (mt hi.mp (by omega)))) cq)
      refine gW_b D_Lw_taken 17 1 (pc' := 26) (l' := [(0, .ref 0), (1, .int (nI c)), (2, .int (nI (c + j)))]) (st' := [.int (nI (c + j))]) (h' := [cI 6 g]) (P := True) rfl trivial ?_
      rw [show c + j = tkN q c by omega]
      exact gW_iret (gdec_at D_Lw_taken 18 rfl) rfl rfl hn0 ⟨rfl, rfl⟩ (Nat.le_of_ble_eq_true rfl) (Nat.le_of_ble_eq_true rfl)
  | succ n ih =>
    intro j hj
    have hi := tkN_iff (q := q) (j := j) hq hc
    by_cases h0 : q = 0
    · skip
      exact absurd hj (by unfold tkN; rw [if_pos (by omega)]; omega)
    · skip
      have hd : ¬ g 5 = 0 := by rw [hg]; exact nI_ne0 (by omega) (by omega)
      have hle : (c + j) / q ≤ c + j := Nat.div_le_self _ _
      have hb : c + j - (c + j) / q ≤ c + j := Nat.sub_le _ _
      have hb2 : c + j - (c + j) / q < 2 ^ 31 := Nat.lt_of_le_of_lt hb (by omega)
      refine gW_b D_Lw_taken 2 3 (pc' := 5) (l' := [(0, .ref 0), (1, .int (nI c)), (2, .int (nI (c + j)))]) (st' := [.int (g 5)]) (h' := [cI 6 g]) (P := vp_in 5 6 ∧ True) rfl ⟨(gvl 5 6 (by omega) (by omega)), trivial⟩ ?_
      refine gW_if_le (gdec_at D_Lw_taken 5 rfl) (tgt := 25) rfl (fun cq => absurd cq (mt (gle hg (gk 0) (by omega) (by omega)).mp (by omega))) (fun _ => ?_)
      refine gW_b D_Lw_taken 6 8 (pc' := 16) (l' := [(0, .ref 0), (1, .int (nI c)), (2, .int (nI (c + j)))]) (st' := [.int (nI c), .int ((nI (c + j)) - ((nI (c + j)) / (g 5)))]) (h' := [cI 6 g]) (P := vp_in 5 6 ∧ ¬ (g 5) = 0 ∧ True) rfl ⟨(gvl 5 6 (by omega) (by omega)), (by assumption), trivial⟩ ?_
      refine gW_ic_ge (gdec_at D_Lw_taken 14 rfl) (tgt := 25) rfl (fun cq => absurd cq (mt (gle (rfl : nI c = nI c) (gsub (rfl : nI (c + j) = nI (c + j)) (gdivn (rfl : nI (c + j) = nI (c + j)) hg (by omega) (by omega) (by omega)) hle) (by omega) hb2).mp (Nat.not_le.mpr (hi.mpr (by omega))))) (fun _ => ?_)
      refine gW_b D_Lw_taken 15 2 (pc' := 2) (l' := [(0, .ref 0), (1, .int (nI c)), (2, .int ((nI (c + j)) + 1))]) (st' := []) (h' := [cI 6 g]) (P := True) rfl trivial ?_
      rw [show ((nI (c + j)) + 1 : Int32) = nI ((c + j) + 1) from (gadd (rfl : nI (c + j) = nI (c + j)) (gk 1))]
      exact ih (j + 1) (by omega)
set_option maxRecDepth 20000 in
theorem m_takenL (g : Nat → Int32) (q c : Nat) (hg : g 5 = nI q) (hq : q = 0 ∨ 2 ≤ q) (hq9 : q ≤ 99) (hc : 1 ≤ c) (hc5 : c ≤ 500) : gM K_Lw_taken { frames := 0, locals := 0, cells := 0, slots := 0 } [.ref 0, .int (nI c)] ([cI 6 g]) (gD (.inl (some (.int (nI (tkN q c))))) ([cI 6 g])) := by
  refine gM_of rfl rfl (Nat.le_of_ble_eq_true rfl) (fun sc => ?_)
  refine gW_b D_Lw_taken 0 2 (pc' := 2) (l' := [(0, .ref 0), (1, .int (nI c)), (2, .int (nI c))]) (st' := []) (h' := [cI 6 g]) (P := True) rfl trivial ?_
  have hk := tkN_le (q := q) hc
  exact l_takenL g q c hg hq hq9 hc hc5 (Nat.le_refl 1) (tkN q c - c) 0 (by omega)
set_option maxRecDepth 20000 in
theorem l_sort1 (f g : Nat → Int32) (a : Nat) (ha : a < 6) {sc : Nat × (Nat → Int32)} {n0 : Nat} {E : gO → gH → Prop} : ∀ (p m : Nat), p ≤ 4 → m < 4 → (gW K_Lw_sort sc { frames := 2, locals := 47, cells := 0, slots := 0 } n0 E 0 0 41 [(0, .ref 0), (1, .ref 1), (2, .int (nI a)), (3, .int (nI (mdL f a p m)))] [] ([cI 24 f, cI 6 g])) → gW K_Lw_sort sc { frames := 2, locals := 47, cells := 0, slots := 0 } n0 E 0 0 5 [(0, .ref 0), (1, .ref 1), (2, .int (nI a)), (3, .int (nI m)), (4, .int (pm1 p))] [] ([cI 24 f, cI 6 g]) := by
  intro p
  induction p with
  | zero =>
    intro m hp hm kk
    rw [show pm1 0 = (-1) from by decide]
    refine gW_b D_Lw_sort 4 1 (pc' := 7) (l' := [(0, .ref 0), (1, .ref 1), (2, .int (nI a)), (3, .int (nI m)), (4, .int (-1))]) (st' := [.int (-1)]) (h' := [cI 24 f, cI 6 g]) (P := True) rfl trivial ?_
    refine gW_if_lt (gdec_at D_Lw_sort 5 rfl) (tgt := 41) rfl (fun _ => ?_) (fun cq => absurd (by decide) cq)
    refine gW_l [0, 1, 2, 3] (l' := [(0, .ref 0), (1, .ref 1), (2, .int (nI a)), (3, .int (nI m))]) rfl ?_
    exact kk
  | succ p ih =>
    intro m hp hm kk
    rw [pm1_s p]
    refine gW_b D_Lw_sort 4 1 (pc' := 7) (l' := [(0, .ref 0), (1, .ref 1), (2, .int (nI a)), (3, .int (nI m)), (4, .int (nI p))]) (st' := [.int (nI p)]) (h' := [cI 24 f, cI 6 g]) (P := True) rfl trivial ?_
    refine gW_if_lt (gdec_at D_Lw_sort 5 rfl) (tgt := 41) rfl (fun cq => absurd cq (nI_pos (n := p) (by omega))) (fun _ => ?_)
    refine gW_b D_Lw_sort 6 14 (pc' := 25) (l' := [(0, .ref 0), (1, .ref 1), (2, .int (nI a)), (3, .int (nI m)), (4, .int (nI p))]) (st' := [.int (f (((4 * (nI a)) + (nI m)).toNatClampNeg)), .int (f (((4 * (nI a)) + (nI p)).toNatClampNeg))]) (h' := [cI 24 f, cI 6 g]) (P := vp_in ((4 * (nI a)) + (nI p)) 24 ∧ vp_in ((4 * (nI a)) + (nI m)) 24 ∧ True) rfl ⟨(gvin (gadd (gmul2 (gk 4) (rfl : nI a = nI a)) (rfl : nI p = nI p)) (by omega) (by omega)), (gvin (gadd (gmul2 (gk 4) (rfl : nI a = nI a)) (rfl : nI m = nI m)) (by omega) (by omega)), trivial⟩ ?_
    rw [show ((4 * (nI a)) + (nI p)).toNatClampNeg = ((a * 4) + p) from gclp (gadd (gmul2 (gk 4) (rfl : nI a = nI a)) (rfl : nI p = nI p)) (by omega)]
    rw [show ((4 * (nI a)) + (nI m)).toNatClampNeg = ((a * 4) + m) from gclp (gadd (gmul2 (gk 4) (rfl : nI a = nI a)) (rfl : nI m = nI m)) (by omega)]
    refine gW_ic_lt (gdec_at D_Lw_sort 20 rfl) (tgt := 33) rfl (fun c => ?_) (fun c => ?_)
    · skip
      refine gW_b D_Lw_sort 23 4 (pc' := 5) (l' := [(0, .ref 0), (1, .ref 1), (2, .int (nI a)), (3, .int (nI m)), (4, .int ((nI p) + (-1)))]) (st' := []) (h' := [cI 24 f, cI 6 g]) (P := True) rfl trivial ?_
      rw [show mdL f a (p + 1) m = mdL f a p m from if_pos c] at kk
      exact ih m (by omega) hm kk
    · skip
      refine gW_b D_Lw_sort 21 2 (pc' := 34) (l' := [(0, .ref 0), (1, .ref 1), (2, .int (nI a)), (3, .int (nI m)), (4, .int (nI p))]) (st' := [.int (nI p)]) (h' := [cI 24 f, cI 6 g]) (P := True) rfl trivial ?_
      refine gW_b D_Lw_sort 24 3 (pc' := 5) (l' := [(0, .ref 0), (1, .ref 1), (2, .int (nI a)), (3, .int (nI p)), (4, .int ((nI p) + (-1)))]) (st' := []) (h' := [cI 24 f, cI 6 g]) (P := True) rfl trivial ?_
      rw [show mdL f a (p + 1) m = mdL f a p p from if_neg c] at kk
      exact ih p (by omega) (by omega) kk
set_option maxRecDepth 20000 in
theorem l_sort3 (f g : Nat → Int32) (a k t : Nat) {sc : Nat × (Nat → Int32)} {n0 : Nat} {E : gO → gH → Prop} : ∀ (p : Nat) (v : Int32), p ≤ 6 → (gW K_Lw_sort sc { frames := 2, locals := 47, cells := 0, slots := 0 } n0 E 0 0 85 [(0, .ref 0), (1, .ref 1), (2, .int (nI a)), (3, .int (nI k)), (4, .int (nI t)), (5, .int (etV f p v))] [] ([cI 24 f, cI 6 g])) → gW K_Lw_sort sc { frames := 2, locals := 47, cells := 0, slots := 0 } n0 E 0 0 56 [(0, .ref 0), (1, .ref 1), (2, .int (nI a)), (3, .int (nI k)), (4, .int (nI t)), (5, .int v), (6, .int (pm1 p))] [] ([cI 24 f, cI 6 g]) := by
  intro p
  induction p with
  | zero =>
    intro v hp kk
    rw [show pm1 0 = (-1) from by decide]
    refine gW_b D_Lw_sort 36 1 (pc' := 58) (l' := [(0, .ref 0), (1, .ref 1), (2, .int (nI a)), (3, .int (nI k)), (4, .int (nI t)), (5, .int v), (6, .int (-1))]) (st' := [.int (-1)]) (h' := [cI 24 f, cI 6 g]) (P := True) rfl trivial ?_
    refine gW_if_lt (gdec_at D_Lw_sort 37 rfl) (tgt := 85) rfl (fun _ => ?_) (fun cq => absurd (by decide) cq)
    refine gW_l [0, 1, 2, 3, 4, 5] (l' := [(0, .ref 0), (1, .ref 1), (2, .int (nI a)), (3, .int (nI k)), (4, .int (nI t)), (5, .int v)]) rfl ?_
    exact kk
  | succ p ih =>
    intro v hp kk
    rw [pm1_s p]
    refine gW_b D_Lw_sort 36 1 (pc' := 58) (l' := [(0, .ref 0), (1, .ref 1), (2, .int (nI a)), (3, .int (nI k)), (4, .int (nI t)), (5, .int v), (6, .int (nI p))]) (st' := [.int (nI p)]) (h' := [cI 24 f, cI 6 g]) (P := True) rfl trivial ?_
    refine gW_if_lt (gdec_at D_Lw_sort 37 rfl) (tgt := 85) rfl (fun cq => absurd cq (nI_pos (n := p) (by omega))) (fun _ => ?_)
    refine gW_b D_Lw_sort 38 2 (pc' := 64) (l' := [(0, .ref 0), (1, .ref 1), (2, .int (nI a)), (3, .int (nI k)), (4, .int (nI t)), (5, .int v), (6, .int (nI p))]) (st' := [.int (nI p), .ref 0]) (h' := [cI 24 f, cI 6 g]) (P := True) rfl trivial ?_
    refine gW_callS (m_sum f p (by omega)) lk_Lw_10 [0] (gdec_at D_Lw_sort 40 rfl) (st := []) rfl rfl ⟨rfl, rfl⟩ (Nat.le_of_ble_eq_true rfl) (Nat.le_of_ble_eq_true rfl) ⟨Nat.le_of_ble_eq_true rfl, Nat.le_of_ble_eq_true rfl⟩ ⟨Nat.le_of_ble_eq_true rfl, Nat.le_of_ble_eq_true rfl⟩ (gAft_r rfl rfl (h' := [cI 24 f, cI 6 g]) (st' := [.int (hA f p)]) (pc' := 67) (cs' := 0) (ss' := 0) rfl rfl rfl rfl rfl ?_)
    refine gW_if_ne (gdec_at D_Lw_sort 41 rfl) (tgt := 75) rfl (fun c => ?_) (fun c => ?_)
    · skip
      refine gW_b D_Lw_sort 44 4 (pc' := 56) (l' := [(0, .ref 0), (1, .ref 1), (2, .int (nI a)), (3, .int (nI k)), (4, .int (nI t)), (5, .int v), (6, .int ((nI p) + (-1)))]) (st' := []) (h' := [cI 24 f, cI 6 g]) (P := True) rfl trivial ?_
      rw [show etV f (p + 1) v = etV f p v from if_neg c] at kk
      exact ih v (by omega) kk
    · skip
      refine gW_b D_Lw_sort 42 2 (pc' := 77) (l' := [(0, .ref 0), (1, .ref 1), (2, .int (nI a)), (3, .int (nI k)), (4, .int (nI t)), (5, .int v), (6, .int (nI p))]) (st' := [.int (nI p)]) (h' := [cI 24 f, cI 6 g]) (P := True) rfl trivial ?_
      refine gW_b D_Lw_sort 45 3 (pc' := 56) (l' := [(0, .ref 0), (1, .ref 1), (2, .int (nI a)), (3, .int (nI k)), (4, .int (nI t)), (5, .int (nI p)), (6, .int ((nI p) + (-1)))]) (st' := []) (h' := [cI 24 f, cI 6 g]) (P := True) rfl trivial ?_
      rw [show etV f (p + 1) v = etV f p (nI p) from if_pos c] at kk
      exact ih (nI p) (by omega) kk
theorem l_sort2 (f g : Nat → Int32) (a k : Nat) (ha : a < 6) (h : trI f) (hr0 : 0 < (g 1).toInt) (hr5 : (g 1).toInt ≤ 500) (hk : k < 4) {sc : Nat × (Nat → Int32)} {n0 : Nat} {E : gO → gH → Prop} (kk : gW K_Lw_sort sc { frames := 2, locals := 47, cells := 0, slots := 0 } n0 E 0 0 113 [(0, .ref 0), (1, .ref 1), (2, .int (nI a)), (3, .int (nI k)), (4, .int (nI 4))] [] ([cI 24 (srR a k (g 1) f 4), cI 6 g])) : ∀ (n i : Nat), i + n = 4 → gW K_Lw_sort sc { frames := 2, locals := 47, cells := 0, slots := 0 } n0 E 0 0 44 [(0, .ref 0), (1, .ref 1), (2, .int (nI a)), (3, .int (nI k)), (4, .int (nI i))] [] ([cI 24 (srR a k (g 1) f i), cI 6 g]) := by
  intro n
  induction n with
  | zero =>
    intro i hi
    obtain rfl : 4 = i := by omega
    refine gW_b D_Lw_sort 29 2 (pc' := 47) (l' := [(0, .ref 0), (1, .ref 1), (2, .int (nI a)), (3, .int (nI k)), (4, .int (nI 4))]) (st' := [.int 4, .int (nI 4)]) (h' := [cI 24 (srR a k (g 1) f 4), cI 6 g]) (P := True) rfl trivial ?_
    refine gW_ic_ge (gdec_at D_Lw_sort 31 rfl) (tgt := 113) rfl (fun _ => ?_) (fun cq => absurd ((gle (gk 4) (rfl : nI 4 = nI 4) (by omega) (by omega)).mpr (by omega)) cq)
    exact kk
  | succ n ih =>
    intro i hi
    refine gW_b D_Lw_sort 29 2 (pc' := 47) (l' := [(0, .ref 0), (1, .ref 1), (2, .int (nI a)), (3, .int (nI k)), (4, .int (nI i))]) (st' := [.int 4, .int (nI i)]) (h' := [cI 24 (srR a k (g 1) f i), cI 6 g]) (P := True) rfl trivial ?_
    refine gW_ic_ge (gdec_at D_Lw_sort 31 rfl) (tgt := 113) rfl (fun cq => absurd cq (mt (gle (gk 4) (rfl : nI i = nI i) (by omega) (by omega)).mp (by omega))) (fun _ => ?_)
    obtain ⟨-, hi1, -⟩ := sort_r h k ha hr0 hr5 i (by omega)
    have hst := slS_r hi1 k ha (show i < 4 by omega) hr0 hr5
    refine gW_b D_Lw_sort 32 4 (pc' := 56) (l' := [(0, .ref 0), (1, .ref 1), (2, .int (nI a)), (3, .int (nI k)), (4, .int (nI i)), (5, .int (-1)), (6, .int 5)]) (st' := []) (h' := [cI 24 (srR a k (g 1) f i), cI 6 g]) (P := True) rfl trivial ?_
    refine l_sort3 (srR a k (g 1) f i) g a k i 6 (-1) (by omega) ?_
    show gW K_Lw_sort sc { frames := 2, locals := 47, cells := 0, slots := 0 } n0 E 0 0 85 [(0, .ref 0), (1, .ref 1), (2, .int (nI a)), (3, .int (nI k)), (4, .int (nI i)), (5, .int (etI (srR a k (g 1) f i)))] [] ([cI 24 (srR a k (g 1) f i), cI 6 g])
    refine gW_b D_Lw_sort 48 2 (pc' := 88) (l' := [(0, .ref 0), (1, .ref 1), (2, .int (nI a)), (3, .int (nI k)), (4, .int (nI i)), (5, .int (etI (srR a k (g 1) f i)))]) (st' := [.int (nI k), .int (nI i)]) (h' := [cI 24 (srR a k (g 1) f i), cI 6 g]) (P := True) rfl trivial ?_
    refine gW_ic_eq (gdec_at D_Lw_sort 50 rfl) (tgt := 107) rfl (fun c => ?_) (fun c => ?_)
    · have c := (geq (rfl : nI i = nI i) (rfl : nI k = nI k) (by omega) (by omega)).mp c
      refine gW_l [0, 1, 2, 3, 4] (l' := [(0, .ref 0), (1, .ref 1), (2, .int (nI a)), (3, .int (nI k)), (4, .int (nI i))]) rfl ?_
      refine gW_b D_Lw_sort 60 2 (pc' := 44) (l' := [(0, .ref 0), (1, .ref 1), (2, .int (nI a)), (3, .int (nI k)), (4, .int ((nI i) + 1))]) (st' := []) (h' := [cI 24 (srR a k (g 1) f i), cI 6 g]) (P := True) rfl trivial ?_
      rw [show ((nI i) + 1 : Int32) = nI (i + 1) from (gadd (rfl : nI i = nI i) (gk 1))]
      rw [show (srR a k (g 1) f i) = srR a k (g 1) f (i + 1) from ((show srS a k (g 1) (srR a k (g 1) f i) i = (srR a k (g 1) f i) from if_pos c)).symm]
      exact ih (i + 1) (by omega)
    · have c := mt (geq (rfl : nI i = nI i) (rfl : nI k = nI k) (by omega) (by omega)).mpr c
      refine gW_b D_Lw_sort 51 1 (pc' := 93) (l' := [(0, .ref 0), (1, .ref 1), (2, .int (nI a)), (3, .int (nI k)), (4, .int (nI i)), (5, .int (etI (srR a k (g 1) f i)))]) (st' := [.int (etI (srR a k (g 1) f i))]) (h' := [cI 24 (srR a k (g 1) f i), cI 6 g]) (P := True) rfl trivial ?_
      refine gW_if_lt (gdec_at D_Lw_sort 52 rfl) (tgt := 107) rfl (fun d => ?_) (fun d => ?_)
      · skip
        refine gW_l [0, 1, 2, 3, 4] (l' := [(0, .ref 0), (1, .ref 1), (2, .int (nI a)), (3, .int (nI k)), (4, .int (nI i))]) rfl ?_
        refine gW_b D_Lw_sort 60 2 (pc' := 44) (l' := [(0, .ref 0), (1, .ref 1), (2, .int (nI a)), (3, .int (nI k)), (4, .int ((nI i) + 1))]) (st' := []) (h' := [cI 24 (srR a k (g 1) f i), cI 6 g]) (P := True) rfl trivial ?_
        rw [show ((nI i) + 1 : Int32) = nI (i + 1) from (gadd (rfl : nI i = nI i) (gk 1))]
        rw [show (srR a k (g 1) f i) = srR a k (g 1) f (i + 1) from (hst.symm.trans ((if_neg c).trans (if_pos (etI_m1 d)))).symm]
        exact ih (i + 1) (by omega)
      · skip
        obtain ⟨e, he6, hee, hne⟩ := etI_ne d
        rw [hee]
        refine gW_b D_Lw_sort 53 5 (pc' := 103) (l' := [(0, .ref 0), (1, .ref 1), (2, .int (nI a)), (3, .int (nI k)), (4, .int (nI i)), (5, .int (nI e))]) (st' := [.int (nI i), .int (nI e), .int (nI a), .ref 1, .ref 0]) (h' := [cI 24 (srR a k (g 1) f i), cI 6 g]) (P := True) rfl trivial ?_
        refine gW_callS (m_pourL (srR a k (g 1) f i) g a e i (by omega) (by omega) (by omega) hi1) lk_Lw_16 [0, 1] (gdec_at D_Lw_sort 58 rfl) (st := []) rfl rfl ⟨rfl, rfl⟩ (Nat.le_of_ble_eq_true rfl) (Nat.le_of_ble_eq_true rfl) ⟨Nat.le_of_ble_eq_true rfl, Nat.le_of_ble_eq_true rfl⟩ ⟨Nat.le_of_ble_eq_true rfl, Nat.le_of_ble_eq_true rfl⟩ (gAft_r rfl rfl (h' := [cI 24 (pourF (srR a k (g 1) f i) a e i (pmI (srR a k (g 1) f i) a i (frI (srR a k (g 1) f i) e (g 1)))), cI 6 g]) (st' := [.int (pmI (srR a k (g 1) f i) a i (frI (srR a k (g 1) f i) e (g 1)))]) (pc' := 106) (cs' := 0) (ss' := 0) rfl rfl rfl rfl rfl ?_)
        refine gW_l [0, 1, 2, 3, 4] (l' := [(0, .ref 0), (1, .ref 1), (2, .int (nI a)), (3, .int (nI k)), (4, .int (nI i))]) rfl ?_
        refine gW_b D_Lw_sort 59 3 (pc' := 44) (l' := [(0, .ref 0), (1, .ref 1), (2, .int (nI a)), (3, .int (nI k)), (4, .int ((nI i) + 1))]) (st' := []) (h' := [cI 24 (pourF (srR a k (g 1) f i) a e i (pmI (srR a k (g 1) f i) a i (frI (srR a k (g 1) f i) e (g 1)))), cI 6 g]) (P := True) rfl trivial ?_
        rw [show ((nI i) + 1 : Int32) = nI (i + 1) from (gadd (rfl : nI i = nI i) (gk 1))]
        rw [show pourF (srR a k (g 1) f i) a e i (pmI (srR a k (g 1) f i) a i (frI (srR a k (g 1) f i) e (g 1))) = srR a k (g 1) f (i + 1) from (hst.symm.trans (slS_e c he6 hee hne)).symm]
        exact ih (i + 1) (by omega)
set_option maxRecDepth 20000 in
theorem m_sortL (f g : Nat → Int32) (a : Nat) (ha : a < 6) (h : trI f) (hr0 : 0 < (g 1).toInt) (hr5 : (g 1).toInt ≤ 500) : gM K_Lw_sort { frames := 2, locals := 47, cells := 0, slots := 0 } [.ref 0, .ref 1, .int (nI a)] ([cI 24 f, cI 6 g]) (gD (.inl none) ([cI 24 (srR a (moc f a 3) (g 1) f 4), cI 6 g])) := by
  refine gM_of rfl rfl (Nat.le_of_ble_eq_true rfl) (fun sc => ?_)
  refine gW_b D_Lw_sort 0 4 (pc' := 5) (l' := [(0, .ref 0), (1, .ref 1), (2, .int (nI a)), (3, .int 0), (4, .int 3)]) (st' := []) (h' := [cI 24 f, cI 6 g]) (P := True) rfl trivial ?_
  refine l_sort1 f g a ha 4 0 (by omega) (by omega) ?_
  rw [mdL_r]
  have hk := moc_le f a 3
  refine gW_b D_Lw_sort 27 2 (pc' := 44) (l' := [(0, .ref 0), (1, .ref 1), (2, .int (nI a)), (3, .int (nI (moc f a 3))), (4, .int 0)]) (st' := []) (h' := [cI 24 f, cI 6 g]) (P := True) rfl trivial ?_
  refine l_sort2 f g a (moc f a 3) ha h hr0 hr5 (by omega) ?_ 4 0 rfl
  exact gW_vret (gdec_at D_Lw_sort 62 rfl) rfl (Nat.le_of_ble_eq_true rfl) ⟨rfl, rfl⟩ (Nat.le_of_ble_eq_true rfl) (Nat.le_of_ble_eq_true rfl)
set_option maxRecDepth 20000 in
theorem m_isAheadL (g v : Nat → Int32) (s r : Nat) (hs : s < 10) (hr : r < 10) (b1 : bnd g s) (b2 : bnd g r) : gM K_Lw_isAhead { frames := 0, locals := 0, cells := 0, slots := 0 } [.ref 0, .ref 1, .int (nI s), .int (nI r)] ([cI 50 g, cI 6 v]) (gD (.inl (some (.int (bI (cb (keyOf (v 2)) g s r))))) ([cI 50 g, cI 6 v])) := by
  refine gM_of rfl rfl (Nat.le_of_ble_eq_true rfl) (fun sc => ?_)
  refine gW_b D_Lw_isAhead 0 3 (pc' := 3) (l' := [(0, .ref 0), (1, .ref 1), (2, .int (nI s)), (3, .int (nI r))]) (st' := [.int (v 2)]) (h' := [cI 50 g, cI 6 v]) (P := vp_in 2 6 ∧ True) rfl ⟨(gvl 2 6 (by omega) (by omega)), trivial⟩ ?_
  refine gW_if_ne (gdec_at D_Lw_isAhead 3 rfl) (tgt := 24) rfl (fun c0 => ?_) (fun c0 => ?_)
  · skip
    rw [show keyOf (v 2) = 2 from if_neg c0]
    obtain ⟨h1, h2⟩ := ahd_lt b1.1 b2.1
    refine gW_b D_Lw_isAhead 20 17 (pc' := 43) (l' := [(0, .ref 0), (1, .ref 1), (2, .int (nI s)), (3, .int (nI r)), (4, .int ((g (((5 * (nI s)) + 2).toNatClampNeg)) - (g (((5 * (nI r)) + 2).toNatClampNeg))))]) (st' := [.int ((g (((5 * (nI s)) + 2).toNatClampNeg)) - (g (((5 * (nI r)) + 2).toNatClampNeg)))]) (h' := [cI 50 g, cI 6 v]) (P := vp_in ((5 * (nI s)) + 2) 50 ∧ vp_in ((5 * (nI r)) + 2) 50 ∧ True) rfl ⟨(gvin (gadd (gmul2 (gk 5) (rfl : nI s = nI s)) (gk 2)) (by omega) (by omega)), (gvin (gadd (gmul2 (gk 5) (rfl : nI r = nI r)) (gk 2)) (by omega) (by omega)), trivial⟩ ?_
    rw [show ((5 * (nI s)) + 2).toNatClampNeg = ((s * 5) + 2) from gclp (gadd (gmul2 (gk 5) (rfl : nI s = nI s)) (gk 2)) (by omega)]
    rw [show ((5 * (nI r)) + 2).toNatClampNeg = ((r * 5) + 2) from gclp (gadd (gmul2 (gk 5) (rfl : nI r = nI r)) (gk 2)) (by omega)]
    refine gW_if_lt (gdec_at D_Lw_isAhead 37 rfl) (tgt := 64) rfl (fun c1 => ?_) (fun c1 => ?_)
    · skip
      rw [cb_lt (h1.mp c1)]
      refine gW_b D_Lw_isAhead 51 2 (pc' := 69) (l' := [(0, .ref 0), (1, .ref 1), (2, .int (nI s)), (3, .int (nI r)), (4, .int ((g (((s * 5) + 2))) - (g (((r * 5) + 2)))))]) (st' := [.int 1]) (h' := [cI 50 g, cI 6 v]) (P := True) rfl trivial ?_
      exact gW_iret (gdec_at D_Lw_isAhead 54 rfl) rfl rfl (Nat.le_of_ble_eq_true rfl) ⟨rfl, rfl⟩ (Nat.le_of_ble_eq_true rfl) (Nat.le_of_ble_eq_true rfl)
    · skip
      refine gW_b D_Lw_isAhead 38 1 (pc' := 48) (l' := [(0, .ref 0), (1, .ref 1), (2, .int (nI s)), (3, .int (nI r)), (4, .int ((g (((s * 5) + 2))) - (g (((r * 5) + 2)))))]) (st' := [.int ((g (((s * 5) + 2))) - (g (((r * 5) + 2))))]) (h' := [cI 50 g, cI 6 v]) (P := True) rfl trivial ?_
      refine gW_if_ne (gdec_at D_Lw_isAhead 39 rfl) (tgt := 68) rfl (fun c2 => ?_) (fun c2 => ?_)
      · skip
        rw [cb_2 (mt h2.mpr c2) (mt h1.mpr c1)]
        refine gW_b D_Lw_isAhead 53 1 (pc' := 69) (l' := [(0, .ref 0), (1, .ref 1), (2, .int (nI s)), (3, .int (nI r)), (4, .int ((g (((s * 5) + 2))) - (g (((r * 5) + 2)))))]) (st' := [.int 0]) (h' := [cI 50 g, cI 6 v]) (P := True) rfl trivial ?_
        exact gW_iret (gdec_at D_Lw_isAhead 54 rfl) rfl rfl (Nat.le_of_ble_eq_true rfl) ⟨rfl, rfl⟩ (Nat.le_of_ble_eq_true rfl) (Nat.le_of_ble_eq_true rfl)
      · skip
        refine gW_b D_Lw_isAhead 40 10 (pc' := 61) (l' := [(0, .ref 0), (1, .ref 1), (2, .int (nI s)), (3, .int (nI r)), (4, .int ((g (((s * 5) + 2))) - (g (((r * 5) + 2)))))]) (st' := [.int (g ((5 * (nI r)).toNatClampNeg)), .int (g ((5 * (nI s)).toNatClampNeg))]) (h' := [cI 50 g, cI 6 v]) (P := vp_in (5 * (nI s)) 50 ∧ vp_in (5 * (nI r)) 50 ∧ True) rfl ⟨(gvin (gmul2 (gk 5) (rfl : nI s = nI s)) (by omega) (by omega)), (gvin (gmul2 (gk 5) (rfl : nI r = nI r)) (by omega) (by omega)), trivial⟩ ?_
        rw [show (5 * (nI s)).toNatClampNeg = (s * 5) from gclp (gmul2 (gk 5) (rfl : nI s = nI s)) (by omega)]
        rw [show (5 * (nI r)).toNatClampNeg = (r * 5) from gclp (gmul2 (gk 5) (rfl : nI r = nI r)) (by omega)]
        refine gW_ic_ge (gdec_at D_Lw_isAhead 50 rfl) (tgt := 68) rfl (fun c3 => ?_) (fun c3 => ?_)
        · skip
          rw [cb_4 (h2.mp c2) (Int32.not_lt.mpr c3)]
          refine gW_b D_Lw_isAhead 53 1 (pc' := 69) (l' := [(0, .ref 0), (1, .ref 1), (2, .int (nI s)), (3, .int (nI r)), (4, .int ((g (((s * 5) + 2))) - (g (((r * 5) + 2)))))]) (st' := [.int 0]) (h' := [cI 50 g, cI 6 v]) (P := True) rfl trivial ?_
          exact gW_iret (gdec_at D_Lw_isAhead 54 rfl) rfl rfl (Nat.le_of_ble_eq_true rfl) ⟨rfl, rfl⟩ (Nat.le_of_ble_eq_true rfl) (Nat.le_of_ble_eq_true rfl)
        · skip
          rw [cb_3 (h2.mp c2) (Int32.not_le.mp c3)]
          refine gW_b D_Lw_isAhead 51 2 (pc' := 69) (l' := [(0, .ref 0), (1, .ref 1), (2, .int (nI s)), (3, .int (nI r)), (4, .int ((g (((s * 5) + 2))) - (g (((r * 5) + 2)))))]) (st' := [.int 1]) (h' := [cI 50 g, cI 6 v]) (P := True) rfl trivial ?_
          exact gW_iret (gdec_at D_Lw_isAhead 54 rfl) rfl rfl (Nat.le_of_ble_eq_true rfl) ⟨rfl, rfl⟩ (Nat.le_of_ble_eq_true rfl) (Nat.le_of_ble_eq_true rfl)
  · skip
    rw [show keyOf (v 2) = 3 from if_pos c0]
    obtain ⟨h1, h2⟩ := ahd_lt b1.2 b2.2
    refine gW_b D_Lw_isAhead 4 16 (pc' := 39) (l' := [(0, .ref 0), (1, .ref 1), (2, .int (nI s)), (3, .int (nI r))]) (st' := [.int ((g (((5 * (nI s)) + 3).toNatClampNeg)) - (g (((5 * (nI r)) + 3).toNatClampNeg)))]) (h' := [cI 50 g, cI 6 v]) (P := vp_in ((5 * (nI s)) + 3) 50 ∧ vp_in ((5 * (nI r)) + 3) 50 ∧ True) rfl ⟨(gvin (gadd (gmul2 (gk 5) (rfl : nI s = nI s)) (gk 3)) (by omega) (by omega)), (gvin (gadd (gmul2 (gk 5) (rfl : nI r = nI r)) (gk 3)) (by omega) (by omega)), trivial⟩ ?_
    rw [show ((5 * (nI s)) + 3).toNatClampNeg = ((s * 5) + 3) from gclp (gadd (gmul2 (gk 5) (rfl : nI s = nI s)) (gk 3)) (by omega)]
    rw [show ((5 * (nI r)) + 3).toNatClampNeg = ((r * 5) + 3) from gclp (gadd (gmul2 (gk 5) (rfl : nI r = nI r)) (gk 3)) (by omega)]
    refine gW_b D_Lw_isAhead 35 2 (pc' := 43) (l' := [(0, .ref 0), (1, .ref 1), (2, .int (nI s)), (3, .int (nI r)), (4, .int ((g (((s * 5) + 3))) - (g (((r * 5) + 3)))))]) (st' := [.int ((g (((s * 5) + 3))) - (g (((r * 5) + 3))))]) (h' := [cI 50 g, cI 6 v]) (P := True) rfl trivial ?_
    refine gW_if_lt (gdec_at D_Lw_isAhead 37 rfl) (tgt := 64) rfl (fun c1 => ?_) (fun c1 => ?_)
    · skip
      rw [cb_lt (h1.mp c1)]
      refine gW_b D_Lw_isAhead 51 2 (pc' := 69) (l' := [(0, .ref 0), (1, .ref 1), (2, .int (nI s)), (3, .int (nI r)), (4, .int ((g (((s * 5) + 3))) - (g (((r * 5) + 3)))))]) (st' := [.int 1]) (h' := [cI 50 g, cI 6 v]) (P := True) rfl trivial ?_
      exact gW_iret (gdec_at D_Lw_isAhead 54 rfl) rfl rfl (Nat.le_of_ble_eq_true rfl) ⟨rfl, rfl⟩ (Nat.le_of_ble_eq_true rfl) (Nat.le_of_ble_eq_true rfl)
    · skip
      refine gW_b D_Lw_isAhead 38 1 (pc' := 48) (l' := [(0, .ref 0), (1, .ref 1), (2, .int (nI s)), (3, .int (nI r)), (4, .int ((g (((s * 5) + 3))) - (g (((r * 5) + 3)))))]) (st' := [.int ((g (((s * 5) + 3))) - (g (((r * 5) + 3))))]) (h' := [cI 50 g, cI 6 v]) (P := True) rfl trivial ?_
      refine gW_if_ne (gdec_at D_Lw_isAhead 39 rfl) (tgt := 68) rfl (fun c2 => ?_) (fun c2 => ?_)
      · skip
        rw [cb_2 (mt h2.mpr c2) (mt h1.mpr c1)]
        refine gW_b D_Lw_isAhead 53 1 (pc' := 69) (l' := [(0, .ref 0), (1, .ref 1), (2, .int (nI s)), (3, .int (nI r)), (4, .int ((g (((s * 5) + 3))) - (g (((r * 5) + 3)))))]) (st' := [.int 0]) (h' := [cI 50 g, cI 6 v]) (P := True) rfl trivial ?_
        exact gW_iret (gdec_at D_Lw_isAhead 54 rfl) rfl rfl (Nat.le_of_ble_eq_true rfl) ⟨rfl, rfl⟩ (Nat.le_of_ble_eq_true rfl) (Nat.le_of_ble_eq_true rfl)
      · skip
        refine gW_b D_Lw_isAhead 40 10 (pc' := 61) (l' := [(0, .ref 0), (1, .ref 1), (2, .int (nI s)), (3, .int (nI r)), (4, .int ((g (((s * 5) + 3))) - (g (((r * 5) + 3)))))]) (st' := [.int (g ((5 * (nI r)).toNatClampNeg)), .int (g ((5 * (nI s)).toNatClampNeg))]) (h' := [cI 50 g, cI 6 v]) (P := vp_in (5 * (nI s)) 50 ∧ vp_in (5 * (nI r)) 50 ∧ True) rfl ⟨(gvin (gmul2 (gk 5) (rfl : nI s = nI s)) (by omega) (by omega)), (gvin (gmul2 (gk 5) (rfl : nI r = nI r)) (by omega) (by omega)), trivial⟩ ?_
        rw [show (5 * (nI s)).toNatClampNeg = (s * 5) from gclp (gmul2 (gk 5) (rfl : nI s = nI s)) (by omega)]
        rw [show (5 * (nI r)).toNatClampNeg = (r * 5) from gclp (gmul2 (gk 5) (rfl : nI r = nI r)) (by omega)]
        refine gW_ic_ge (gdec_at D_Lw_isAhead 50 rfl) (tgt := 68) rfl (fun c3 => ?_) (fun c3 => ?_)
        · skip
          rw [cb_4 (h2.mp c2) (Int32.not_lt.mpr c3)]
          refine gW_b D_Lw_isAhead 53 1 (pc' := 69) (l' := [(0, .ref 0), (1, .ref 1), (2, .int (nI s)), (3, .int (nI r)), (4, .int ((g (((s * 5) + 3))) - (g (((r * 5) + 3)))))]) (st' := [.int 0]) (h' := [cI 50 g, cI 6 v]) (P := True) rfl trivial ?_
          exact gW_iret (gdec_at D_Lw_isAhead 54 rfl) rfl rfl (Nat.le_of_ble_eq_true rfl) ⟨rfl, rfl⟩ (Nat.le_of_ble_eq_true rfl) (Nat.le_of_ble_eq_true rfl)
        · skip
          rw [cb_3 (h2.mp c2) (Int32.not_le.mp c3)]
          refine gW_b D_Lw_isAhead 51 2 (pc' := 69) (l' := [(0, .ref 0), (1, .ref 1), (2, .int (nI s)), (3, .int (nI r)), (4, .int ((g (((s * 5) + 3))) - (g (((r * 5) + 3)))))]) (st' := [.int 1]) (h' := [cI 50 g, cI 6 v]) (P := True) rfl trivial ?_
          exact gW_iret (gdec_at D_Lw_isAhead 54 rfl) rfl rfl (Nat.le_of_ble_eq_true rfl) ⟨rfl, rfl⟩ (Nat.le_of_ble_eq_true rfl) (Nat.le_of_ble_eq_true rfl)
theorem l_pureL (f : Nat → Int32) (t : Nat) (ht : t < 4) (h : trI f) {sc : Nat × (Nat → Int32)} {n0 : Nat} {E : gO → gH → Prop} (kk : gW K_Lw_pure sc { frames := 2, locals := 44, cells := 0, slots := 0 } n0 E 0 0 38 [(0, .ref 0), (1, .int (nI t)), (2, .int (rpI f t 6)), (3, .int (nI 6))] [] ([cI 24 f])) : ∀ (n i : Nat), i + n = 6 → gW K_Lw_pure sc { frames := 2, locals := 44, cells := 0, slots := 0 } n0 E 0 0 4 [(0, .ref 0), (1, .int (nI t)), (2, .int (rpI f t i)), (3, .int (nI i))] [] ([cI 24 f]) := by
  intro n
  induction n with
  | zero =>
    intro i hi
    obtain rfl : 6 = i := by omega
    refine gW_b D_Lw_pure 4 2 (pc' := 7) (l' := [(0, .ref 0), (1, .int (nI t)), (2, .int (rpI f t 6)), (3, .int (nI 6))]) (st' := [.int 6, .int (nI 6)]) (h' := [cI 24 f]) (P := True) rfl trivial ?_
    refine gW_ic_ge (gdec_at D_Lw_pure 6 rfl) (tgt := 38) rfl (fun _ => ?_) (fun cq => absurd ((gle (gk 6) (rfl : nI 6 = nI 6) (by omega) (by omega)).mpr (by omega)) cq)
    exact kk
  | succ n ih =>
    intro i hi
    refine gW_b D_Lw_pure 4 2 (pc' := 7) (l' := [(0, .ref 0), (1, .int (nI t)), (2, .int (rpI f t i)), (3, .int (nI i))]) (st' := [.int 6, .int (nI i)]) (h' := [cI 24 f]) (P := True) rfl trivial ?_
    refine gW_ic_ge (gdec_at D_Lw_pure 6 rfl) (tgt := 38) rfl (fun cq => absurd cq (mt (gle (gk 6) (rfl : nI i = nI i) (by omega) (by omega)).mp (by omega))) (fun _ => ?_)
    refine gW_b D_Lw_pure 7 3 (pc' := 13) (l' := [(0, .ref 0), (1, .int (nI t)), (2, .int (rpI f t i)), (3, .int (nI i))]) (st' := [.int (nI i), .ref 0, .int (rpI f t i)]) (h' := [cI 24 f]) (P := True) rfl trivial ?_
    refine gW_callS (m_isMixed f i (by omega) h) lk_Lw_20 [0] (gdec_at D_Lw_pure 10 rfl) (st := [.int (rpI f t i)]) rfl rfl ⟨rfl, rfl⟩ (Nat.le_of_ble_eq_true rfl) (Nat.le_of_ble_eq_true rfl) ⟨Nat.le_of_ble_eq_true rfl, Nat.le_of_ble_eq_true rfl⟩ ⟨Nat.le_of_ble_eq_true rfl, Nat.le_of_ble_eq_true rfl⟩ (gAft_r rfl rfl (h' := [cI 24 f]) (st' := [.int (bI (mxb f i)), .int (rpI f t i)]) (pc' := 16) (cs' := 0) (ss' := 0) rfl rfl rfl rfl rfl ?_)
    refine gW_if_eq (gdec_at D_Lw_pure 11 rfl) (tgt := 23) rfl (fun c => ?_) (fun c => ?_)
    · skip
      refine gW_b D_Lw_pure 14 11 (pc' := 4) (l' := [(0, .ref 0), (1, .int (nI t)), (2, .int ((rpI f t i) + (f (((4 * (nI i)) + (nI t)).toNatClampNeg)))), (3, .int ((nI i) + 1))]) (st' := []) (h' := [cI 24 f]) (P := vp_in ((4 * (nI i)) + (nI t)) 24 ∧ True) rfl ⟨(gvin (gadd (gmul2 (gk 4) (rfl : nI i = nI i)) (rfl : nI t = nI t)) (by omega) (by omega)), trivial⟩ ?_
      rw [show ((4 * (nI i)) + (nI t)).toNatClampNeg = ((i * 4) + t) from gclp (gadd (gmul2 (gk 4) (rfl : nI i = nI i)) (rfl : nI t = nI t)) (by omega)]
      rw [show ((nI i) + 1 : Int32) = nI (i + 1) from (gadd (rfl : nI i = nI i) (gk 1))]
      rw [show rpI f t i + f (i * 4 + t) = rpI f t (i + 1) from (if_pos (mxb_0 c)).symm]
      exact ih (i + 1) (by omega)
    · skip
      refine gW_b D_Lw_pure 12 2 (pc' := 30) (l' := [(0, .ref 0), (1, .int (nI t)), (2, .int (rpI f t i)), (3, .int (nI i))]) (st' := [.int 0, .int (rpI f t i)]) (h' := [cI 24 f]) (P := True) rfl trivial ?_
      refine gW_b D_Lw_pure 21 4 (pc' := 4) (l' := [(0, .ref 0), (1, .int (nI t)), (2, .int ((rpI f t i) + 0)), (3, .int ((nI i) + 1))]) (st' := []) (h' := [cI 24 f]) (P := True) rfl trivial ?_
      rw [show ((nI i) + 1 : Int32) = nI (i + 1) from (gadd (rfl : nI i = nI i) (gk 1))]
      rw [show rpI f t i + 0 = rpI f t (i + 1) from (Int32.add_zero _).trans (if_neg (Nat.not_le.mpr (mxb_1 c))).symm]
      exact ih (i + 1) (by omega)
set_option maxRecDepth 20000 in
theorem m_pureL (f : Nat → Int32) (t : Nat) (ht : t < 4) (h : trI f) : gM K_Lw_pure { frames := 2, locals := 44, cells := 0, slots := 0 } [.ref 0, .int (nI t)] ([cI 24 f]) (gD (.inl (some (.int (rpI f t 6)))) ([cI 24 f])) := by
  refine gM_of rfl rfl (Nat.le_of_ble_eq_true rfl) (fun sc => ?_)
  refine gW_b D_Lw_pure 0 4 (pc' := 4) (l' := [(0, .ref 0), (1, .int (nI t)), (2, .int 0), (3, .int 0)]) (st' := []) (h' := [cI 24 f]) (P := True) rfl trivial ?_
  refine l_pureL f t ht h ?_ 6 0 rfl
  refine gW_b D_Lw_pure 25 1 (pc' := 39) (l' := [(0, .ref 0), (1, .int (nI t)), (2, .int (rpI f t 6)), (3, .int (nI 6))]) (st' := [.int (rpI f t 6)]) (h' := [cI 24 f]) (P := True) rfl trivial ?_
  exact gW_iret (gdec_at D_Lw_pure 26 rfl) rfl rfl (Nat.le_of_ble_eq_true rfl) ⟨rfl, rfl⟩ (Nat.le_of_ble_eq_true rfl) (Nat.le_of_ble_eq_true rfl)
