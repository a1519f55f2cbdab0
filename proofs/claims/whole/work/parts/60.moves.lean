/-! THE MOVES section, drop, undo -/
theorem DI.ad {j j' : Nat} {D : gDom} (h : DI j D) (hjj : j ≤ j') {k : Nat} {u d : Int32} (hk : k < 4) (h1 : ¬ u < 1) (h2 : ¬ 500 < u) (h3 : ¬ d < 0) (h4 : ¬ 999 < d) (hn : dSz D < 10) (hc : (dC D).toInt + 1 ≤ 10 * j') (hj' : j' ≤ 600) : DI j' (adR D (nI k) u d) := by
  have u1 := mt ilt.mpr h1
  have u2 := mt ilt.mpr h2
  have d1 := mt ilt.mpr h3
  have d2 := mt ilt.mpr h4
  rw [i1] at u1
  rw [i0] at d1
  rw [show (500 : Int32).toInt = 500 from rfl] at u2
  rw [show (999 : Int32).toInt = 999 from rfl] at d2
  obtain ⟨e1, e2⟩ := iof (x := u) (by omega)
  have hcn := h.cn
  have ec : (dC D + 1).toInt = (dC D).toInt + 1 := by rw [ia (by rw [i1]; omega) (by rw [i1]; omega), i1]
  have hdn := h.dn
  have hm := h.mono hjj
  have a := fun q k (hk : k < 5) => adF_at (dG D) (dSz D) (dC D) (nI k) u d q k hk
  have kk : tnx (nI k) = k := nI_clamp (by omega)
  have at_n : ∀ i, i < 5 → adF (dG D) (dSz D) (dC D) (nI k) u d (dSz D * 5 + i) = (if i = 0 then dC D else if i = 1 then nI k else if i = 2 then u else if i = 3 then d else 0) := fun i hi => by rw [adF_at _ _ _ _ _ _ _ _ hi, if_pos rfl]
  have at_o : ∀ p i, i < 5 → p < dSz D → adF (dG D) (dSz D) (dC D) (nI k) u d (p * 5 + i) = dG D (p * 5 + i) := fun p i hi hp => by rw [adF_at _ _ _ _ _ _ _ _ hi, if_neg (by omega)]
  refine ⟨⟨?_, fun p hp => ?_, h.ok.2.2⟩, h.st, h.tr, fun p hp => ?_, fun p q hpq hq => ?_, fun p hp => ?_, h.sh, hm.cu, h.la, h.sw, h.co, fun t ht => ?_, ?_, ?_, h.ld, h.dy⟩
  · show dSz D + 1 ≤ 10
    omega
  · have hp' : p < dSz D + 1 := hp
    show rowOK (adF _ _ _ _ _ _) p
    unfold rowOK okT
    by_cases e : p = dSz D
    · subst e
      rw [at_n 1 (by omega), at_n 2 (by omega)]
      show (nI k = nI (tnx (nI k)) ∧ tnx (nI k) < 4) ∧ u = nI (tnx u) ∧ tnx u ≤ 500
      rw [kk]
      exact ⟨⟨rfl, hk⟩, e1, by omega⟩
    · rw [at_o p 1 (by omega) (by omega), at_o p 2 (by omega) (by omega)]
      exact h.ok.2.1 p (by omega)
  · have hp' : p < dSz D + 1 := hp
    show rowE (adF _ _ _ _ _ _) p
    unfold rowE
    by_cases e : p = dSz D
    · subst e
      rw [at_n 2 (by omega), at_n 3 (by omega), at_n 4 (by omega)]
      show 0 ≤ d.toInt ∧ d.toInt ≤ 999 ∧ 0 ≤ (0 : Int32).toInt ∧ 0 ≤ u.toInt ∧ (0 : Int32).toInt + u.toInt ≤ 500
      rw [i0]
      omega
    · rw [at_o p 2 (by omega) (by omega), at_o p 3 (by omega) (by omega), at_o p 4 (by omega) (by omega)]
      exact h.rw p (by omega)
  · have hq' : q < dSz D + 1 := hq
    show (adF _ _ _ _ _ _ _).toInt < (adF _ _ _ _ _ _ _).toInt
    rw [at_o p 0 (by omega) (by omega)]
    by_cases e : q = dSz D
    · subst e
      rw [at_n 0 (by omega)]
      exact (h.nb p hpq).2
    · rw [at_o q 0 (by omega) (by omega)]
      exact h.ds p q hpq (by omega)
  · have hp' : p < dSz D + 1 := hp
    show 0 ≤ (adF _ _ _ _ _ _ _).toInt ∧ (adF _ _ _ _ _ _ _).toInt < (dC D + 1).toInt
    rw [ec]
    by_cases e : p = dSz D
    · subst e
      rw [at_n 0 (by omega)]
      show 0 ≤ (dC D).toInt ∧ (dC D).toInt < (dC D).toInt + 1
      omega
    · rw [at_o p 0 (by omega) (by omega)]
      have := h.nb p (by omega)
      omega
  · show hsu (adF _ _ _ _ _ _) t (dSz D + 1) ≤ (dLa D t).toInt
    rw [hsu_ad]
    exact h.hs t ht
  · show 0 ≤ (dC D + 1).toInt ∧ (dC D + 1).toInt ≤ 10 * (j' : Int)
    rw [ec]
    omega
  · show 0 ≤ (dDn D).toInt ∧ (dDn D).toInt + ((dSz D + 1 : Nat) : Int) ≤ (dC D + 1).toInt
    rw [ec]
    omega
theorem ad_r {j j' : Nat} {DC D : gDom} (hr : DRl DC D) {t u d : Int32} (hd : DI j' (adR D t u d)) : DRl (addD DC t u d) (adR D t u d) := by
  obtain ⟨g, rfl, hp, hs⟩ := hr
  have e : (rows (adF g (dSz D) (dC D) t u d) (dSz D + 1)).Perm (rows (adF (dG D) (dSz D) (dC D) t u d) (dSz D + 1)) := by
    rw [rows_ad, rows_ad]
    exact hp.append_right _
  have hne : (rows (adF (dG D) (dSz D) (dC D) t u d) (dSz D + 1)).Pairwise rne := hd.rne
  obtain ⟨a1, a2⟩ := arr_n (keyOf_k (dSt D 2)) (rne_p e hne)
  exact ⟨arrO (keyOf (dSt D 2)) (adF g (dSz D) (dC D) t u d) (dSz D + 1 - 1), rfl, a2.trans e, a1⟩
theorem RelD.ad {j j' : Nat} {DC D : gDom} (h : RelD j DC D) (hjj : j ≤ j') {k : Nat} {u d : Int32} (hk : k < 4) (h1 : ¬ u < 1) (h2 : ¬ 500 < u) (h3 : ¬ d < 0) (h4 : ¬ 999 < d) (hn : dSz D < 10) (hc : (dC D).toInt + 1 ≤ 10 * j') (hj' : j' ≤ 600) : RelD j' (addD DC (nI k) u d) (adR D (nI k) u d) := by
  obtain ⟨hDR, hDI, hz, hy⟩ := h
  have hd := hDI.ad hjj hk h1 h2 h3 h4 hn hc hj'
  refine ⟨ad_r (j := j) hDR hd, hd, fun p hp => ?_, hy⟩
  have hp' : p < dSz D + 1 := hp
  show ¬ adF _ _ _ _ _ _ _ = 0
  rw [adF_at _ _ _ _ _ _ _ _ (by omega)]
  by_cases e : p = dSz D
  · rw [if_pos e]
    show ¬ u = 0
    intro q
    rw [q] at h1
    exact h1 (by decide)
  · rw [if_neg e]
    exact hz p (by omega)
theorem c_section (j : Nat) (S : gGS) (M : gMo) (o : Nat → Int64) (a0 a1 a2 : Int32) (hj : j < 512) (h : Rel j S M) : prP (Rel (j + 1)) S M o K_Lw_section K_Mo_section [.int a0, .int a1, .int a2] := by
  have hok := h.go
  have hr := h.2.1
  have hn := h.2.2.2.1
  have ho := h.2.2.2.2.1
  have sc := (h.mono (Nat.le_succ j)).scr
  have esz := h.1.dm.2.1
  rcases in_4 a0 with hx | ⟨k, hk, rfl⟩
  · exact pr_x (by decide) (by decide) hr ho (w_section_x1 _ _ _ S S o (by decide) hr hr (m_section_x1 S hok _ _ _ hx)) (n_section_x1 M _ _ _ hx) (sc 1)
  · by_cases h12 : a1 < 1 ∨ 500 < a1
    · exact pr_x (by decide) (by decide) hr ho (w_section_x2 _ _ _ S S o (by decide) hr hr (m_section_x2 S hok k _ _ hk h12)) (n_section_x2 M k _ _ hk h12) (sc 2)
    · have h1 : ¬ a1 < 1 := fun q => h12 (Or.inl q)
      have h2 : ¬ 500 < a1 := fun q => h12 (Or.inr q)
      by_cases h34 : a2 < 0 ∨ 999 < a2
      · exact pr_x (by decide) (by decide) hr ho (w_section_x2 _ _ _ S S o (by decide) hr hr (m_section_x3 S hok k _ _ hk h1 h2 h34)) (n_section_x3 M k _ _ hk h1 h2 h34) (sc 2)
      · have h3 : ¬ a2 < 0 := fun q => h34 (Or.inl q)
        have h4 : ¬ 999 < a2 := fun q => h34 (Or.inr q)
        have h10 := h.1.2.1.ok.1
        by_cases hsz : dSz (mD M) < 10
        · have hcn := h.1.2.1.cn
          have hd := h.1.ad (Nat.le_succ j) hk h1 h2 h3 h4 hsz (by omega) (by omega)
          have hm := m_section S hok k a1 a2 hk h1 h2 h3 h4 (by rw [esz]; exact hsz)
          obtain ⟨g, eg⟩ := h.1.eq
          have ec : dC (sD S) = dC (mD M) := by rw [eg]; rfl
          rw [ec] at hm
          have hmv := h.move hd
          exact pr_ok (by decide) hmv.2.1 (w_section _ _ _ S _ o (by decide) hr hmv.2.1 _ hm) (gXs_d (n_section M hn k a1 a2 hk h1 h2 h3 h4 hsz) ho) rfl (hmv.scr 0)
        · exact pr_x (by decide) (by decide) hr ho (w_section_x3 _ _ _ S S o (by decide) hr hr (m_section_x4 S hok k _ _ hk h1 h2 h3 h4 (by rw [esz]; exact hsz))) (n_section_x4 M k _ _ hk h1 h2 h3 h4 (by omega)) (sc 3)
theorem c_undo (j : Nat) (S : gGS) (M : gMo) (o : Nat → Int64) (_ : j < 512) (h : Rel j S M) : prP (Rel (j + 1)) S M o K_Lw_undo K_Mo_undo [] := by
  have hok := h.go
  obtain ⟨h1, hr, h3, hn, ho, h6, h7⟩ := id h
  have sc := (h.mono (Nat.le_succ j)).scr
  cases hq : mN M with
  | zero =>
    have e : wN M 0 = M := by rw [← hq]
    have hnn := n_undo_x M
    rw [e] at hnn
    have e2 : wN (wTh M 1) 0 = wTh M 1 := by rw [← hq]
    rw [e2] at hnn
    exact pr_x (by decide) (by decide) hr ho (w_undo_x1 S S o (by decide) hr hr (m_undo_x S hok (by omega))) hnn (sc 1)
  | succ q =>
    have e : wN M (q + 1) = M := by rw [← hq]
    have hnn := n_undo M q (by omega)
    rw [e] at hnn
    have hm := m_undo S hok (by omega)
    have es : sN S - 1 = q := by omega
    have hrel : Rel (j + 1) (undS S) (wN (wD (wTh M 0) (mDs M q)) q) := by
      refine ⟨?_, hr, es, by show q ≤ 6; omega, ho, fun k hk => (h6 k (by have : k < q := hk; omega)).mono (Nat.le_succ j), h7⟩
      show RelD (j + 1) (sDs S ((sN S - 1 + sR S) % 6)) (mDs M q)
      rw [es]
      exact (h6 q (by omega)).mono (Nat.le_succ j)
    rw [es] at hm
    exact pr_ok (by decide) hrel.2.1 (w_undo S _ o (by decide) hr hrel.2.1 _ hm) (gXs_d hnn ho) rfl (hrel.scr 0)
