/-! pass, AND WHAT IS ASKED: setting, taken, tray, ifPassed, bestOrder -/
theorem in_lh {lo hi : Nat} (hl : lo ≤ hi) (hh : hi < 2 ^ 31) (x : Int32) : (x < nI lo ∨ nI hi < x) ∨ ∃ d, lo ≤ d ∧ d ≤ hi ∧ x = nI d := by
  by_cases h : x < nI lo
  · exact Or.inl (Or.inl h)
  · have h0 : ¬ x < 0 := by
      intro q
      have q1 := ilt.mp q
      have q2 := mt ilt.mpr h
      rw [i0] at q1
      rw [iN (by omega)] at q2
      omega
    obtain ⟨q, hq, rfl⟩ := nI_of h0
    by_cases h2 : nI hi < nI q
    · exact Or.inl (Or.inr h2)
    · have e1 := mt (nI_ltI hq (by omega)).mpr h
      have e2 := mt (nI_ltI hh hq).mpr h2
      exact Or.inr ⟨q, by omega, by omega, rfl⟩
theorem in_160 (x : Int32) : (x < 1 ∨ 60 < x) ∨ ∃ d, 1 ≤ d ∧ d ≤ 60 ∧ x = nI d := in_lh (by decide) (by decide) x
theorem in_130 (x : Int32) : (x < 1 ∨ 30 < x) ∨ ∃ d, 1 ≤ d ∧ d ≤ 30 ∧ x = nI d := in_lh (by decide) (by decide) x
theorem in_150 (x : Int32) : (x < 1 ∨ 500 < x) ∨ ∃ d, 1 ≤ d ∧ d ≤ 500 ∧ x = nI d := in_lh (by decide) (by decide) x
theorem in_03 (x : Int32) : (x < 0 ∨ 3 < x) ∨ ∃ d, 0 ≤ d ∧ d ≤ 3 ∧ x = nI d := in_lh (by decide) (by decide) x
theorem i_back {c x y : Int32} (h : c + y = x) : x - y = c := by rw [← h, Int32.add_sub_cancel]
theorem DRl.eq {DC D : gDom} (h : DRl DC D) : ∃ g, DC = setG D g := by
  obtain ⟨g, e, -⟩ := h
  exact ⟨g, e⟩
theorem c_pass (j : Nat) (S : gGS) (M : gMo) (o : Nat → Int64) (a0 : Int32) (hj : j < 512) (h : Rel j S M) : prP (Rel (j + 1)) S M o K_Lw_pass K_Mo_pass [.int a0] := by
  have hok := h.go
  have hr := h.2.1
  have hn := h.2.2.2.1
  have ho := h.2.2.2.2.1
  have sc := (h.mono (Nat.le_succ j)).scr
  obtain ⟨g, eg⟩ := h.1.eq
  have e : dDy (sD S) = dDy (mD M) := by rw [eg]; rfl
  rcases in_160 a0 with hx | ⟨d, h1, h2, rfl⟩
  · exact pr_x (by decide) (by decide) hr ho (w_pass_x1 _ S S o (by decide) hr hr (m_pass_x1 S hok _ hx)) (n_pass_x1 M _ hx) (sc 1)
  · by_cases h9 : 9999 < dDy (mD M) + nI d
    · exact pr_x (by decide) (by decide) hr ho (w_pass_x2 _ S S o (by decide) hr hr (m_pass_x2 S hok d h1 h2 (by rw [e]; exact h9))) (n_pass_x2 M d h1 h2 h9) (sc 2)
    · obtain ⟨hDR, hDI, hz, hy⟩ := h.1
      have hdy := hDI.dy
      have hdd : (dDy (mD M) + nI d).toInt = (dDy (mD M)).toInt + d := by rw [ia (by rw [iN (by omega)]; omega) (by rw [iN (by omega)]; omega), iN (by omega)]
      have h9' := mt ilt.mpr h9
      rw [hdd, show (9999 : Int32).toInt = 9999 from rfl] at h9'
      obtain ⟨d1, d2, d3, d4, d5, d6⟩ := days_r (by omega) hDI hDR hz d (by omega)
      have hd : RelD (j + 1) (pdI d (sD S)) (dyC (mD M) d).1 := ⟨d1, d2.mono (Nat.le_succ j), d3, by rw [d4]; omega⟩
      have hm := m_pass S hok d h1 h2 (by rw [e]; exact h9)
      have ec : sum4 (dLa (pdI d (sD S))) - sum4 (dLa (sD S)) = (dyC (mD M) d).2 := by
        obtain ⟨g2, eg2⟩ := d1.eq
        have e1 : dLa (pdI d (sD S)) = dLa (dyC (mD M) d).1 := by rw [eg2]; rfl
        have e2 : dLa (sD S) = dLa (mD M) := by rw [eg]; rfl
        rw [e1, e2]
        exact i_back d6
      rw [ec] at hm
      have hmv := h.move hd
      obtain ⟨y1, y2⟩ := dyR_C (mD M) (mOd M) (mSt M) d
      have hnn := n_pass M hn d hDI.ok ho h1 h2 h9
      rw [y1, y2] at hnn
      exact pr_ok (by decide) hmv.2.1 (w_pass _ S _ o (by decide) hr hmv.2.1 _ hm) (gM_wk (fun o h' q => ⟨(dyR (mD M) (mOd M) (mSt M) d).2.1, (dyR (mD M) (mOd M) (mSt M) d).2.2.1, mSp M, (dyR_ok hDI.ok ho d).2.1, q.1, q.2⟩) hnn) rfl (hmv.scr 0)
theorem c_setting (j : Nat) (S : gGS) (M : gMo) (o : Nat → Int64) (a0 : Int32) (_ : j < 512) (h : Rel j S M) : prP (Rel (j + 1)) S M o K_Lw_setting K_Mo_setting [.int a0] := by
  have hok := h.go
  have hr := h.2.1
  have ho := h.2.2.2.2.1
  have sc := (h.mono (Nat.le_succ j)).scr
  rcases in_6 a0 with hx | ⟨k, hk, rfl⟩
  · exact pr_x (by decide) (by decide) hr ho (w_setting_x1 _ S S o (by decide) hr hr (m_setting_x S hok _ hx)) (n_setting_x M _ hx) (sc 1)
  · have hm := m_setting S hok k hk
    obtain ⟨g, eg⟩ := h.1.eq
    have ec : dSt (sD S) k = dSt (mD M) k := by rw [eg]; rfl
    rw [ec] at hm
    exact pr_ok (by decide) hr (w_setting _ S S o (by decide) hr hr _ hm) (gXs_d (n_setting M k hk) ho) rfl (sc 0)
theorem c_taken (j : Nat) (S : gGS) (M : gMo) (o : Nat → Int64) (a0 : Int32) (_ : j < 512) (h : Rel j S M) : prP (Rel (j + 1)) S M o K_Lw_taken K_Mo_taken [.int a0] := by
  have hok := h.go
  have hr := h.2.1
  have ho := h.2.2.2.2.1
  have sc := (h.mono (Nat.le_succ j)).scr
  rcases in_150 a0 with hx | ⟨c, h1, h2, rfl⟩
  · exact pr_x (by decide) (by decide) hr ho (w_taken_x1 _ S S o (by decide) hr hr (m_taken_x S hok _ hx)) (n_taken_x M _ hx) (sc 1)
  · have b1 : ¬ nI c < 1 := by
      rw [ilt, i1, iN (by omega)]
      omega
    have b2 : ¬ 500 < nI c := by
      rw [ilt, show (500 : Int32).toInt = 500 from rfl, iN (by omega)]
      omega
    have hm := m_taken S hok (nI c) b1 b2
    obtain ⟨g, eg⟩ := h.1.eq
    have ec : dSt (sD S) 5 = dSt (mD M) 5 := by rw [eg]; rfl
    obtain ⟨-, -, h5, h51, h52, -⟩ := h.1.2.1.ok
    rw [ec, tkn_n h5 h51 h52 rfl h1 h2] at hm
    exact pr_ok (by decide) hr (w_taken _ S S o (by decide) hr hr _ hm) (gXs_d (n_taken M c h.1.2.1.ok h1 h2) ho) rfl (sc 0)
theorem stD_same (D : gDom) (k : Nat) : stD D k (dSt D k) = D := by
  unfold stD
  rw [upd_same]
/-- days tried, in the order as it is -/
theorem try_r {j : Nat} (hj : j < 512) {DC D : gDom} (h : RelD j DC D) (d : Nat) (hd : d ≤ 60) : ∃ g, pdI d (chgD DC 2 (dSt DC 2)) = setG (dyC D d).1 g ∧ (dyC D d).2 + sum4 (dLa D) = sum4 (dLa (dyC D d).1) := by
  obtain ⟨hDR, hDI, hz, hy⟩ := h
  have e2 : dSt DC 2 = dSt D 2 := by
    obtain ⟨g, eg⟩ := hDR.eq
    rw [eg]
    rfl
  have hc := chg_r hDI hDR 2 (dSt D 2)
  rw [stD_same] at hc
  obtain ⟨d1, -, -, -, -, d6⟩ := days_r (by omega) hDI hc hz d (by omega)
  obtain ⟨g, eg⟩ := d1.eq
  rw [e2]
  exact ⟨g, eg, d6⟩
theorem Rel.tr {j : Nat} {S : gGS} {M : gMo} (h : Rel j S M) (d : Nat) (x : Int32) : Rel j (ptS S d x) M := h
theorem c_ifPassed (j : Nat) (S : gGS) (M : gMo) (o : Nat → Int64) (a0 a1 : Int32) (hj : j < 512) (h : Rel j S M) : prP (Rel (j + 1)) S M o K_Lw_ifPassed K_Mo_ifPassed [.int a0, .int a1] := by
  have hok := h.go
  have hr := h.2.1
  have ho := h.2.2.2.2.1
  have sc := (h.mono (Nat.le_succ j)).scr
  have hrk := h.1.2.1.ok
  rcases in_160 a0 with hx | ⟨d, h1, h2, rfl⟩
  · exact pr_x (by decide) (by decide) hr ho (w_ifPassed_x1 _ _ S S o (by decide) hr hr (m_ifPassed_x1 S hok _ _ hx)) (n_ifPassed_x1 M _ _ hx) (sc 1)
  · have b1 : ¬ nI d < 1 := by
      rw [ilt, i1, iN (by omega)]
      omega
    have b2 : ¬ 60 < nI d := by
      rw [ilt, show (60 : Int32).toInt = 60 from rfl, iN (by omega)]
      omega
    rcases in_03 a1 with hx | ⟨k, -, hk, rfl⟩
    · exact pr_x (by decide) (by decide) hr ho (w_ifPassed_x1 _ _ S S o (by decide) hr hr (m_ifPassed_x2 S hok _ _ b1 b2 hx)) (n_ifPassed_x2 M _ _ b1 b2 hx) (sc 1)
    · obtain ⟨g, eg⟩ := h.1.eq
      obtain ⟨g2, eg2, d6⟩ := try_r hj h.1 d h2
      have hsc := ((h.mono (Nat.le_succ j)).tr d (dSt (sD S) 2)).scr 0
      obtain rfl | rfl | rfl | rfl : k = 0 ∨ k = 1 ∨ k = 2 ∨ k = 3 := by omega
      · have hm := m_ifPassed_0 S hok d h1 h2
        have ec : sum4 (dLa (pdI d (chgD (sD S) 2 (dSt (sD S) 2)))) - sum4 (dLa (sD S)) = (dyC (mD M) d).2 := by
          rw [eg2, eg]
          exact i_back d6
        rw [ec] at hm
        exact pr_ok (S' := ptS S d (dSt (sD S) 2)) (by decide) hr (w_ifPassed _ _ S (ptS S d (dSt (sD S) 2)) o (by decide) hr hr _ hm) (n_ifPassed_0 M hrk ho d h1 h2) rfl hsc
      · have hm := m_ifPassed_1 S hok d h1 h2
        have ec : dDn (pdI d (chgD (sD S) 2 (dSt (sD S) 2))) - dDn (sD S) = dDn (dyC (mD M) d).1 - dDn (mD M) := by
          rw [eg2, eg]
          rfl
        rw [ec] at hm
        exact pr_ok (S' := ptS S d (dSt (sD S) 2)) (by decide) hr (w_ifPassed _ _ S (ptS S d (dSt (sD S) 2)) o (by decide) hr hr _ hm) (n_ifPassed_1 M hrk ho d h1 h2) rfl hsc
      · have hm := m_ifPassed_2 S hok d h1 h2
        have ec : dLd (pdI d (chgD (sD S) 2 (dSt (sD S) 2))) - dLd (sD S) = dLd (dyC (mD M) d).1 - dLd (mD M) := by
          rw [eg2, eg]
          rfl
        rw [ec] at hm
        exact pr_ok (S' := ptS S d (dSt (sD S) 2)) (by decide) hr (w_ifPassed _ _ S (ptS S d (dSt (sD S) 2)) o (by decide) hr hr _ hm) (n_ifPassed_2 M hrk ho d h1 h2) rfl hsc
      · have hm := m_ifPassed_3 S hok d h1 h2
        have ec : sum4 (dSw (pdI d (chgD (sD S) 2 (dSt (sD S) 2)))) - sum4 (dSw (sD S)) = sum4 (dSw (dyC (mD M) d).1) - sum4 (dSw (mD M)) := by
          rw [eg2, eg]
          rfl
        rw [ec] at hm
        exact pr_ok (S' := ptS S d (dSt (sD S) 2)) (by decide) hr (w_ifPassed _ _ S (ptS S d (dSt (sD S) 2)) o (by decide) hr hr _ hm) (n_ifPassed_3 M hrk ho d h1 h2) rfl hsc
theorem i_sub_lt {x y b : Int32} (hb : 0 ≤ b.toInt) (hx : 0 ≤ x.toInt) (hy : 0 ≤ y.toInt) : (x - b < y - b ↔ x < y) ∧ (x - b = y - b ↔ x = y) := by
  have b2 := b.toInt_lt
  have x2 := x.toInt_lt
  have y2 := y.toInt_lt
  have ex : (x - b).toInt = x.toInt - b.toInt := is (by omega) (by omega)
  have ey : (y - b).toInt = y.toInt - b.toInt := is (by omega) (by omega)
  rw [ilt, ilt, ieq, ieq, ex, ey]
  omega
theorem best_r {j : Nat} (hj : j < 512) {DC D : gDom} (h : RelD j DC D) (d : Nat) (hd : d ≤ 30) : bo2 DC d (dDn (pdI d (chgD DC 2 0))) (dLd (pdI d (chgD DC 2 0))) = bfI D d := by
  obtain ⟨hDR, hDI, hz, hy⟩ := h
  have hdn := hDI.dn
  have hld := hDI.ld
  have s0 : DI j (stD D 2 0) := hDI.set (by omega) (by decide) (by decide) (by decide)
  have s1 : DI j (stD D 2 1) := hDI.set (by omega) (by decide) (by decide) (by decide)
  obtain ⟨p1, p2, -⟩ := days_r (by omega) s0 (chg_r hDI hDR 2 0) hz d (by show (dDy D).toInt + (d : Int) ≤ 10999; omega)
  obtain ⟨q1, q2, -⟩ := days_r (by omega) s1 (chg_r hDI hDR 2 1) hz d (by show (dDy D).toInt + (d : Int) ≤ 10999; omega)
  obtain ⟨g0, e0⟩ := p1.eq
  obtain ⟨g1, e1⟩ := q1.eq
  have hd0 := p2.dn
  have hd1 := q2.dn
  have hl0 := p2.ld
  have hl1 := q2.ld
  unfold bo2 bfI
  rw [e0, e1]
  show (if dDn (dyC (stD D 2 1) d).1 = dDn (dyC (stD D 2 0) d).1 then bI (decide (dLd (dyC (stD D 2 1) d).1 < dLd (dyC (stD D 2 0) d).1)) else bI (decide (dDn (dyC (stD D 2 0) d).1 < dDn (dyC (stD D 2 1) d).1))) = bfC (dDn (dyC (stD D 2 0) d).1 - dDn D) (dLd (dyC (stD D 2 0) d).1 - dLd D) (dDn (dyC (stD D 2 1) d).1 - dDn D) (dLd (dyC (stD D 2 1) d).1 - dLd D)
  obtain ⟨a1, -⟩ := i_sub_lt (b := dDn D) hdn.1 hd0.1 hd1.1
  obtain ⟨-, a2⟩ := i_sub_lt (b := dDn D) hdn.1 hd1.1 hd0.1
  obtain ⟨a3, -⟩ := i_sub_lt (b := dLd D) hld.1 hl1.1 hl0.1
  unfold bfC
  generalize dDn (dyC (stD D 2 0) d).1 = n0 at a1 a2 ⊢
  generalize dDn (dyC (stD D 2 1) d).1 = n1 at a1 a2 ⊢
  generalize dLd (dyC (stD D 2 0) d).1 = l0 at a3 ⊢
  generalize dLd (dyC (stD D 2 1) d).1 = l1 at a3 ⊢
  by_cases hq : n1 = n0
  · have hlt : ¬ n0 - dDn D < n1 - dDn D := fun q => by
      have := a1.mp q
      rw [hq, ilt] at this
      omega
    rw [if_pos hq, if_neg hlt, if_pos (a2.mpr hq)]
    by_cases h3 : l1 < l0
    · rw [decide_eq_true h3, decide_eq_true (a3.mpr h3)]
    · rw [decide_eq_false h3, decide_eq_false (fun q => h3 (a3.mp q))]
  · rw [if_neg hq]
    by_cases hlt : n0 < n1
    · rw [if_pos (a1.mpr hlt), decide_eq_true hlt]
      rfl
    · rw [if_neg (fun q => hlt (a1.mp q)), if_neg (fun q => hq (a2.mp q)), decide_eq_false hlt]
      rfl
theorem c_bestOrder (j : Nat) (S : gGS) (M : gMo) (o : Nat → Int64) (a0 : Int32) (hj : j < 512) (h : Rel j S M) : prP (Rel (j + 1)) S M o K_Lw_bestOrder K_Mo_bestOrder [.int a0] := by
  have hok := h.go
  have hr := h.2.1
  have ho := h.2.2.2.2.1
  have sc := (h.mono (Nat.le_succ j)).scr
  rcases in_130 a0 with hx | ⟨d, h1, h2, rfl⟩
  · exact pr_x (by decide) (by decide) hr ho (w_bestOrder_x1 _ S S o (by decide) hr hr (m_bestOrder_x S hok _ hx)) (n_bestOrder_x M _ hx) (sc 1)
  · have hm := m_bestOrder S hok d h1 h2
    rw [show boI S d = bfI (mD M) d from best_r hj h.1 d h2] at hm
    exact pr_ok (S' := ptS S d 1) (by decide) hr (w_bestOrder _ S (ptS S d 1) o (by decide) hr hr _ hm) (n_bestOrder M h.1.2.1.ok ho d h1 h2) rfl (((h.mono (Nat.le_succ j)).tr d 1).scr 0)
