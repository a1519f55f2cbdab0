/-! WHAT IS ASKED: tray, tone, count, missing, sectionOf. Printed by wip/whole/meths27.py -/
theorem wtc_f (g : Nat → Int32) (x : Int32) : ∀ n, wtc g x n = fsum (fun r => if rTo r = x then rWa r else 0) (rows g n)
  | 0 => rfl
  | n + 1 => by
    rw [rows_s, fsum_app, fsum_one, ← wtc_f g x n]
    show (if g (n * 5 + 1) = x then wtc g x n + g (n * 5 + 2) else wtc g x n) = wtc g x n + (if g (n * 5 + 1) = x then g (n * 5 + 2) else 0)
    split
    · rfl
    · rw [Int32.add_zero]
theorem wtc_r {DC D : gDom} (h : DRl DC D) (x : Int32) : wtc (dG DC) x (dSz DC) = wtc (dG D) x (dSz D) := by
  obtain ⟨g, rfl, hp, -⟩ := h
  show wtc g x (dSz D) = _
  rw [wtc_f, wtc_f]
  exact fsum_perm _ hp
theorem msR_f (D : gDom) (t : Nat) : ∀ n, msR D t n = -(dSh D t) * dSt D 0 - hO (dTr D) t + fsum (fun r => if rTo r = nI t then tkn (dSt D 5) (rWa r) else 0) (rows (dG D) n)
  | 0 => (Int32.add_zero _).symm
  | n + 1 => by
    rw [rows_s, fsum_app, fsum_one, ← Int32.add_assoc, ← msR_f D t n]
    show (if dG D (n * 5 + 1) = nI t then msR D t n + tkn (dSt D 5) (dG D (n * 5 + 2)) else msR D t n) = msR D t n + (if dG D (n * 5 + 1) = nI t then tkn (dSt D 5) (dG D (n * 5 + 2)) else 0)
    split
    · rfl
    · rw [Int32.add_zero]
theorem lkR_f {D : gDom} (h : rsOK D) (t : Nat) : ∀ n, n ≤ dSz D → lkR D t n = -(dSh D t) * dSt D 0 - hO (dTr D) t + fsum (fun r => if rTo r = nI t then tkn (dSt D 5) (rWa r) else 0) (rows (dG D) n)
  | 0, _ => by
    show -(hO (dTr D) t) - dSh D t * dSt D 0 = -(dSh D t) * dSt D 0 - hO (dTr D) t + 0
    rw [Int32.add_zero, Int32.neg_mul, Int32.sub_eq_add_neg, Int32.sub_eq_add_neg, Int32.add_comm]
  | n + 1, hn => by
    obtain ⟨⟨-, hr, h5, h51, h52, -⟩, hw, -⟩ := id h
    obtain ⟨-, hC, hc⟩ := hr n (by omega)
    rw [rows_s, fsum_app, fsum_one, ← Int32.add_assoc, ← lkR_f h t n (by omega)]
    show (if dG D (n * 5 + 1) = nI t then lkR D t n + nI (tkN (tnx (dSt D 5)) (tnx (dG D (n * 5 + 2)))) else lkR D t n) = lkR D t n + (if dG D (n * 5 + 1) = nI t then tkn (dSt D 5) (dG D (n * 5 + 2)) else 0)
    rw [tkn_n h5 h51 h52 hC (hw n (by omega)) hc]
    split
    · rfl
    · rw [Int32.add_zero]
theorem RelD.rs {j : Nat} {DC D : gDom} (h : RelD j DC D) : rsOK D := by
  obtain ⟨-, hDI, hz, -⟩ := h
  have hst := hDI.st
  unfold stE at hst
  refine ⟨hDI.ok, fun p hp => ?_, fun q => ?_⟩
  · obtain ⟨-, hC, -⟩ := hDI.ok.2.1 p hp
    have := hz p hp
    rw [hC] at this
    refine Nat.pos_of_ne_zero fun q => this ?_
    rw [q]
    rfl
  · rw [q, i0] at hst
    omega
theorem ms_r {j : Nat} {DC D : gDom} (h : RelD j DC D) (t : Nat) : msI DC t = lkI D t := by
  have hrs := h.rs
  have hst := h.2.1.st
  unfold stE at hst
  obtain ⟨g, rfl, hp, -⟩ := h.1
  have e : msR (setG D g) t (dSz D) = lkR D t (dSz D) := by
    rw [msR_f, lkR_f hrs t _ (Nat.le_refl _)]
    show -(dSh D t) * dSt D 0 - hO (dTr D) t + fsum _ (rows g (dSz D)) = _
    rw [fsum_perm _ hp]
    rfl
  unfold msI lkI
  show (if msR (setG D g) t (dSz D) < 1 then 0 else if dSt D 0 < 1 then 0 else (msR (setG D g) t (dSz D) + dSt D 0 - 1) / dSt D 0) = _
  rw [e]
  have h0 : ¬ dSt D 0 < 1 := by
    rw [ilt, i1]
    omega
  have hi : lkR D t (dSz D) < 1 ↔ lkR D t (dSz D) ≤ 0 := by
    rw [ilt, ile, i0, i1]
    omega
  by_cases q : lkR D t (dSz D) ≤ 0
  · rw [if_pos q, if_pos (hi.mpr q)]
  · rw [if_neg q, if_neg (fun x => q (hi.mp x)), if_neg h0]
theorem c_tray (j : Nat) (S : gGS) (M : gMo) (o : Nat → Int64) (a0 a1 : Int32) (_ : j < 512) (h : Rel j S M) : prP (Rel (j + 1)) S M o K_Lw_tray K_Mo_tray [.int a0, .int a1] := by
  have hok := h.go
  have hr := h.2.1
  have ho := h.2.2.2.2.1
  have sc := (h.mono (Nat.le_succ j)).scr
  obtain ⟨g, eg⟩ := h.1.eq
  have e : dTr (sD S) = dTr (mD M) := by rw [eg]; rfl
  rcases in_6 a0 with hx | ⟨a, ha, rfl⟩
  · exact pr_x (by decide) (by decide) hr ho (w_tray_x1 _ _ S S o (by decide) hr hr (m_tray_x1 S hok _ _ hx)) (n_tray_x1 M _ _ hx) (sc 1)
  · by_cases hm1 : a1 = -1
    · subst hm1
      have hm := m_tray_all S hok a ha
      rw [e] at hm
      exact pr_ok (by decide) hr (w_tray _ _ S S o (by decide) hr hr _ hm) (gXs_d (n_tray_all M a ha) ho) rfl (sc 0)
    · rcases in_4 a1 with hx | ⟨t, ht, rfl⟩
      · exact pr_x (by decide) (by decide) hr ho (w_tray_x1 _ _ S S o (by decide) hr hr (m_tray_x2 S hok a _ ha hm1 hx)) (n_tray_x2 M a _ ha hm1 hx) (sc 1)
      · have hm := m_tray S hok a t ha ht
        rw [e] at hm
        exact pr_ok (by decide) hr (w_tray _ _ S S o (by decide) hr hr _ hm) (gXs_d (n_tray M a t ha ht) ho) rfl (sc 0)
theorem in_06 (x : Int32) : (x < 0 ∨ 6 < x) ∨ ∃ d, 0 ≤ d ∧ d ≤ 6 ∧ x = nI d := in_lh (by decide) (by decide) x
theorem in_09 (x : Int32) : (x < 0 ∨ 9 < x) ∨ ∃ d, 0 ≤ d ∧ d ≤ 9 ∧ x = nI d := in_lh (by decide) (by decide) x
theorem in_05 (x : Int32) : (x < 0 ∨ 5 < x) ∨ ∃ d, 0 ≤ d ∧ d ≤ 5 ∧ x = nI d := in_lh (by decide) (by decide) x
theorem c_tone (j : Nat) (S : gGS) (M : gMo) (o : Nat → Int64) (a0 a1 : Int32) (_ : j < 512) (h : Rel j S M) : prP (Rel (j + 1)) S M o K_Lw_tone K_Mo_tone [.int a0, .int a1] := by
  have hok := h.go
  have hr := h.2.1
  have ho := h.2.2.2.2.1
  have sc := (h.mono (Nat.le_succ j)).scr
  obtain ⟨g, eg⟩ := h.1.eq
  have hs10 := h.1.2.1.ok.1
  have htr := h.1.2.1.tr
  rcases in_4 a0 with hx | ⟨t, ht, rfl⟩
  · exact pr_x (by decide) (by decide) hr ho (w_tone_x1 _ _ S S o (by decide) hr hr (m_tone_x1 S hok _ _ hx)) (n_tone_x1 M _ _ hx) (sc 1)
  · rcases in_06 a1 with hx | ⟨k, -, hk, rfl⟩
    · exact pr_x (by decide) (by decide) hr ho (w_tone_x2 _ _ S S o (by decide) hr hr (m_tone_x2 S hok t _ ht (by rw [ilt, ilt] at hx; exact hx))) (n_tone_x2 M t _ ht hx) (sc 2)
    · obtain rfl | rfl | rfl | rfl | rfl | rfl | rfl : k = 0 ∨ k = 1 ∨ k = 2 ∨ k = 3 ∨ k = 4 ∨ k = 5 ∨ k = 6 := by omega
      · have hm := m_tone_0 S hok t ht
        rw [show dSh (sD S) t = dSh (mD M) t from by rw [eg]; rfl] at hm
        exact pr_ok (by decide) hr (w_tone _ _ S S o (by decide) hr hr _ hm) (gXs_d (n_tone_0 M hs10 t ht) ho) rfl (sc 0)
      · have hm := m_tone_1 S hok t ht
        rw [show hO (dTr (sD S)) t = hO (dTr (mD M)) t from by rw [eg]; rfl] at hm
        exact pr_ok (by decide) hr (w_tone _ _ S S o (by decide) hr hr _ hm) (gXs_d (n_tone_1 M hs10 t ht) ho) rfl (sc 0)
      · have hm := m_tone_2 S hok t ht
        rw [show rdc (dTr (sD S)) t 6 = rpI (dTr (mD M)) t 6 from by rw [eg]; exact rdc_r htr.ok ht 6 (Nat.le_refl 6)] at hm
        exact pr_ok (by decide) hr (w_tone _ _ S S o (by decide) hr hr _ hm) (gXs_d (n_tone_2 M hs10 t ht) ho) rfl (sc 0)
      · have hm := m_tone_3 S hok t ht
        rw [show dCu (sD S) t = dCu (mD M) t from by rw [eg]; rfl] at hm
        exact pr_ok (by decide) hr (w_tone _ _ S S o (by decide) hr hr _ hm) (gXs_d (n_tone_3 M hs10 t ht) ho) rfl (sc 0)
      · have hm := m_tone_4 S hok t ht
        rw [show dLa (sD S) t = dLa (mD M) t from by rw [eg]; rfl] at hm
        exact pr_ok (by decide) hr (w_tone _ _ S S o (by decide) hr hr _ hm) (gXs_d (n_tone_4 M hs10 t ht) ho) rfl (sc 0)
      · have hm := m_tone_5 S hok t ht
        rw [show dSw (sD S) t = dSw (mD M) t from by rw [eg]; rfl] at hm
        exact pr_ok (by decide) hr (w_tone _ _ S S o (by decide) hr hr _ hm) (gXs_d (n_tone_5 M hs10 t ht) ho) rfl (sc 0)
      · have hm := m_tone_6 S hok t ht
        rw [show wtc (dG (sD S)) (nI t) (dSz (sD S)) = wtc (dG (mD M)) (nI t) (dSz (mD M)) from wtc_r h.1.1 _] at hm
        exact pr_ok (by decide) hr (w_tone _ _ S S o (by decide) hr hr _ hm) (gXs_d (n_tone_6 M hs10 t ht) ho) rfl (sc 0)
theorem c_count (j : Nat) (S : gGS) (M : gMo) (o : Nat → Int64) (a0 : Int32) (_ : j < 512) (h : Rel j S M) : prP (Rel (j + 1)) S M o K_Lw_count K_Mo_count [.int a0] := by
  have hok := h.go
  have hr := h.2.1
  have ho := h.2.2.2.2.1
  have sc := (h.mono (Nat.le_succ j)).scr
  obtain ⟨g, eg⟩ := h.1.eq
  have htr := h.1.2.1.tr
  rcases in_09 a0 with hx | ⟨k, -, hk, rfl⟩
  · exact pr_x (by decide) (by decide) hr ho (w_count_x1 _ S S o (by decide) hr hr (m_count_x S hok _ (by rw [ilt, ilt] at hx; exact hx))) (n_count_x M _ hx) (sc 1)
  · obtain rfl | rfl | rfl | rfl | rfl | rfl | rfl | rfl | rfl | rfl : k = 0 ∨ k = 1 ∨ k = 2 ∨ k = 3 ∨ k = 4 ∨ k = 5 ∨ k = 6 ∨ k = 7 ∨ k = 8 ∨ k = 9 := by omega
    · have hm := m_count_0 S hok
      rw [show dDy (sD S) = dDy (mD M) from by rw [eg]; rfl] at hm
      exact pr_ok (by decide) hr (w_count _ S S o (by decide) hr hr _ hm) (gXs_d (n_count_0 M) ho) rfl (sc 0)
    · have hm := m_count_1 S hok
      rw [show nI (dSz (sD S)) = nI (dSz (mD M)) from by rw [eg]; rfl] at hm
      exact pr_ok (by decide) hr (w_count _ S S o (by decide) hr hr _ hm) (gXs_d (n_count_1 M) ho) rfl (sc 0)
    · have hm := m_count_2 S hok
      rw [show dDn (sD S) = dDn (mD M) from by rw [eg]; rfl] at hm
      exact pr_ok (by decide) hr (w_count _ S S o (by decide) hr hr _ hm) (gXs_d (n_count_2 M) ho) rfl (sc 0)
    · have hm := m_count_3 S hok
      rw [show dLt (sD S) = dLt (mD M) from by rw [eg]; rfl] at hm
      exact pr_ok (by decide) hr (w_count _ S S o (by decide) hr hr _ hm) (gXs_d (n_count_3 M) ho) rfl (sc 0)
    · have hm := m_count_4 S hok
      rw [show dLd (sD S) = dLd (mD M) from by rw [eg]; rfl] at hm
      exact pr_ok (by decide) hr (w_count _ S S o (by decide) hr hr _ hm) (gXs_d (n_count_4 M) ho) rfl (sc 0)
    · have hm := m_count_5 S hok
      rw [show nI (mxc (dTr (sD S)) 6) = nI (mxc (dTr (mD M)) 6) from by rw [eg]; rfl] at hm
      exact pr_ok (by decide) hr (w_count _ S S o (by decide) hr hr _ hm) (gXs_d (n_count_5 M) ho) rfl (sc 0)
    · have hm := m_count_6 S hok
      rw [show nI (emc (dTr (sD S)) 6) = nI (emR (dTr (mD M)) 6) from by rw [eg]; exact congrArg nI (emc_r (by decide) htr.ok 6 (Nat.le_refl 6))] at hm
      exact pr_ok (by decide) hr (w_count _ S S o (by decide) hr hr _ hm) (gXs_d (n_count_6 M) ho) rfl (sc 0)
    · have hm := m_count_7 S hok
      rw [show sum4 (dSw (sD S)) = sum4 (dSw (mD M)) from by rw [eg]; rfl] at hm
      exact pr_ok (by decide) hr (w_count _ S S o (by decide) hr hr _ hm) (gXs_d (n_count_7 M) ho) rfl (sc 0)
    · have hm := m_count_8 S hok
      rw [show dSo (sD S) = dSo (mD M) from by rw [eg]; rfl] at hm
      exact pr_ok (by decide) hr (w_count _ S S o (by decide) hr hr _ hm) (gXs_d (n_count_8 M) ho) rfl (sc 0)
    · have hm := m_count_9 S hok
      rw [show nI (sN S) = nI (mN M) from by rw [h.2.2.1]] at hm
      exact pr_ok (by decide) hr (w_count _ S S o (by decide) hr hr _ hm) (gXs_d (n_count_9 M) ho) rfl (sc 0)
theorem c_missing (j : Nat) (S : gGS) (M : gMo) (o : Nat → Int64) (a0 : Int32) (_ : j < 512) (h : Rel j S M) : prP (Rel (j + 1)) S M o K_Lw_missing K_Mo_missing [.int a0] := by
  have hok := h.go
  have hr := h.2.1
  have ho := h.2.2.2.2.1
  have sc := (h.mono (Nat.le_succ j)).scr
  obtain ⟨g, eg⟩ := h.1.eq
  rcases in_4 a0 with hx | ⟨t, ht, rfl⟩
  · exact pr_x (by decide) (by decide) hr ho (w_missing_x1 _ S S o (by decide) hr hr (m_missing_x S hok _ hx)) (n_missing_x M _ hx) (sc 1)
  · have hm := m_missing S hok t ht
    rw [ms_r h.1 t] at hm
    exact pr_ok (by decide) hr (w_missing _ S S o (by decide) hr hr _ hm) (gXs_d (n_missing M h.1.rs t ht) ho) rfl (sc 0)
theorem c_sectionOf (j : Nat) (S : gGS) (M : gMo) (o : Nat → Int64) (a0 a1 : Int32) (_ : j < 512) (h : Rel j S M) : prP (Rel (j + 1)) S M o K_Lw_sectionOf K_Mo_sectionOf [.int a0, .int a1] := by
  have hok := h.go
  have hr := h.2.1
  have ho := h.2.2.2.2.1
  have sc := (h.mono (Nat.le_succ j)).scr
  obtain ⟨g, eg⟩ := h.1.eq
  have hrk := h.1.2.1.ok
  have esz := h.1.dm.2.1
  by_cases h0 : a0 < 0
  · exact pr_x (by decide) (by decide) hr ho (w_sectionOf_x1 _ _ S S o (by decide) hr hr (m_sectionOf_x1 S hok _ _ h0)) (n_sectionOf_x1 M _ _ h0) (sc 1)
  · rcases in_05 a1 with hx | ⟨k, -, hk, rfl⟩
    · exact pr_x (by decide) (by decide) hr ho (w_sectionOf_x1 _ _ S S o (by decide) hr hr (m_sectionOf_x2 S hok _ _ h0 hx)) (n_sectionOf_x2 M _ _ h0 hx) (sc 1)
    · obtain ⟨p, hp31, rfl⟩ := nI_of h0
      have k1 : ¬ nI k < 0 := by
        rw [ilt, i0, iN (by omega)]
        omega
      have k2 : ¬ 5 < nI k := by
        rw [ilt, show (5 : Int32).toInt = 5 from rfl, iN (by omega)]
        omega
      by_cases hp : p < dSz (mD M)
      · obtain ⟨⟨-, g2, eg2, hrow⟩, -⟩ := h.1.1.er h.1.2.1
        have hcell : ∀ i, i < 5 → dG (sD S) (p * 5 + i) = dG (mD M) (rwO (mD M) (mOd M) p * 5 + i) := fun i hi => by
          rw [rwO_od _ _ hp, eg2]
          exact row_eq.mp (hrow p hp) i hi
        by_cases hk5 : k = 5
        · subst hk5
          have hm := m_sectionOf_5 S hok p (by rw [esz]; exact hp)
          rw [hcell 3 (by omega), show dDy (sD S) = dDy (mD M) by rw [eg]; rfl] at hm
          exact pr_ok (M' := wTh M 0) (by decide) hr (w_sectionOf _ _ S S o (by decide) hr hr _ hm) (gM_wk (fun o h' q => ⟨rwO (mD M) (mOd M), mSt M, mSp M, odOK_O hrk ho, q.1, q.2⟩) (n_sectionOf_5 M hrk ho p hp)) rfl (sc 0)
        · have hm := m_sectionOf S hok p k (by rw [esz]; exact hp) (by omega)
          rw [hcell k (by omega)] at hm
          exact pr_ok (M' := wTh M 0) (by decide) hr (w_sectionOf _ _ S S o (by decide) hr hr _ hm) (gM_wk (fun o h' q => ⟨rwO (mD M) (mOd M), mSt M, mSp M, odOK_O hrk ho, q.1, q.2⟩) (n_sectionOf M hrk ho p k hp (by omega))) rfl (sc 0)
      · have h10 := hrk.1
        have hx : nI (dSz (mD M)) ≤ nI p := (nI_leI (by omega) hp31).mpr (by omega)
        have hm := m_sectionOf_n S hok (nI p) (nI k) h0 (by rw [esz]; exact hx) k1 k2
        exact pr_ok (by decide) hr (w_sectionOf _ _ S S o (by decide) hr hr _ hm) (gXs_d (n_sectionOf_n M (nI p) (nI k) h0 hx k1 k2) ho) rfl (sc 0)
