/-! doneIn: the days ahead, on both sides -/
theorem ndR_at (D T : gDom) (v : Int32) (f : Nat → Int32) (p : Nat) : ∀ m, ndR D T v f m p = if p < m ∧ f p = -1 ∧ plc (dG T) (dG D (p * 5 + 0)) (dSz T) 0 = -1 then v else f p
  | 0 => by rw [if_neg (by omega)]; rfl
  | m + 1 => by
    have ih := ndR_at D T v f p m
    unfold ndR
    by_cases hpm : p = m
    · subst hpm
      rw [if_neg (by omega)] at ih
      by_cases hc : ndR D T v f p p = -1 ∧ plc (dG T) (dG D (p * 5 + 0)) (dSz T) 0 = -1
      · rw [if_pos hc, upd_at]
        rw [ih] at hc
        rw [if_pos ⟨Nat.lt_succ_self p, hc⟩]
      · rw [if_neg hc, ih]
        rw [ih] at hc
        rw [if_neg (fun q => hc q.2)]
    · have e : (if ndR D T v f m m = -1 ∧ plc (dG T) (dG D (m * 5 + 0)) (dSz T) 0 = -1 then upd (ndR D T v f m) m v else ndR D T v f m) p = ndR D T v f m p := by
        split
        · exact upd_ne _ _ hpm
        · rfl
      rw [e, ih]
      by_cases hc : p < m ∧ f p = -1 ∧ plc (dG T) (dG D (p * 5 + 0)) (dSz T) 0 = -1
      · rw [if_pos hc, if_pos ⟨by omega, hc.2⟩]
      · rw [if_neg hc, if_neg (fun q => hc ⟨by omega, q.2⟩)]
theorem fsR_keep : ∀ (n i : Nat) (S : gGS), ∃ T f, fsR n i S = setDb (setTrl S T) f
  | 0, _, S => ⟨sTr S, sDb S, rfl⟩
  | n + 1, i, S => by
    unfold fsR
    split
    · obtain ⟨T, f, e⟩ := fsR_keep n (i + 1) (ndS (setTrl S (pdD (sTr S))) (nI i))
      exact ⟨T, f, e⟩
    · exact ⟨sTr S, sDb S, rfl⟩
theorem fsR_set : ∀ (n i : Nat) (S : gGS) (p : Nat), ¬ sDb S p = -1 → sDb (fsR n i S) p = sDb S p
  | 0, _, _, _, _ => rfl
  | n + 1, i, S, p, h => by
    unfold fsR
    split
    · have e : sDb (ndS (setTrl S (pdD (sTr S))) (nI i)) p = sDb S p := by
        show ndR (sD S) (pdD (sTr S)) (nI i) (sDb S) (dSz (sD S)) p = sDb S p
        rw [ndR_at, if_neg (fun q => h q.2.1)]
      rw [fsR_set n (i + 1) _ p (by rw [e]; exact h), e]
    · rfl
/-- what is asked of a trial: it stands as the reference's dome does -/
def TrD (j : Nat) (T D : gDom) : Prop := DRl T D ∧ DI j D ∧ (∀ p, p < dSz D → ¬ dG D (p * 5 + 2) = 0)
theorem TrD.pl {j : Nat} {T D : gDom} (h : TrD j T D) (x : Int32) : plc (dG T) x (dSz T) 0 = -1 ↔ plL (dG D) x (dSz D) = -1 := by
  obtain ⟨⟨g, rfl, hp, -⟩, hDI, -⟩ := h
  have h10 := hDI.ok.1
  show plc g x (dSz D) 0 = -1 ↔ _
  rcases plc_s g x (dSz D) 0 (by omega) with ⟨h1, h2⟩ | ⟨p, -, h2, h3, h4⟩
  · rcases plL_s (dG D) x (dSz D) (by omega) with ⟨k1, k2⟩ | ⟨q, k1, k2, k3⟩
    · exact ⟨fun _ => k1, fun _ => h1⟩
    · obtain ⟨p, hpn, e⟩ := rows_of (hp.mem_iff.mpr (rows_mem k1))
      exact absurd ((row_eq.mp e 0 (by omega)).symm.trans k3) (h2 p (Nat.zero_le _) (by omega))
  · obtain ⟨q0, hq0, e⟩ := rows_of (hp.mem_iff.mp (rows_mem (show p < dSz D by omega)))
    have e0 : dG D (q0 * 5 + 0) = x := (row_eq.mp e 0 (by omega)).symm.trans h4
    rcases plL_s (dG D) x (dSz D) (by omega) with ⟨k1, k2⟩ | ⟨q, k1, k2, k3⟩
    · exact absurd e0 (k2 q0 hq0)
    · rw [h3, k2]
      exact ⟨fun q => absurd q (nI_n1 (by omega)), fun q => absurd q (nI_n1 (by omega))⟩
theorem fsR_r {j : Nat} (hj : j ≤ 600) : ∀ (n i : Nat) (S : gGS) (D : gDom) (p : Nat), TrD j (sTr S) D → (dDy D).toInt + n ≤ 10998 → i + n ≤ 100 → p < dSz (sD S) → sDb S p = -1 → ¬ plc (dG (sTr S)) (dG (sD S) (p * 5 + 0)) (dSz (sTr S)) 0 = -1 → sDb (fsR n i S) p = dtC (dG (sD S) (p * 5 + 0)) n i D
  | 0, _, _, _, _, _, _, _, _, h, _ => h
  | n + 1, i, S, D, p, hT, hy, hi, hp, h, hpl => by
    obtain ⟨d1, d2, d3, d4, d5, d6⟩ := day_r hj hT.2.1 (by omega) hT.1
    have hT' : TrD j (pdD (sTr S)) (cwD D) := ⟨d1, d2, d3⟩
    have hsz : 0 < dSz (sTr S) := by
      rcases Nat.eq_zero_or_pos (dSz (sTr S)) with q | q
      · rw [q] at hpl
        exact absurd rfl hpl
      · exact q
    unfold fsR dtC
    rw [if_pos hsz]
    have e : sDb (ndS (setTrl S (pdD (sTr S))) (nI i)) p = if p < dSz (sD S) ∧ sDb S p = -1 ∧ plc (dG (pdD (sTr S))) (dG (sD S) (p * 5 + 0)) (dSz (pdD (sTr S))) 0 = -1 then nI i else sDb S p := ndR_at _ _ _ _ _ _
    by_cases hc : plL (dG (cwD D)) (dG (sD S) (p * 5 + 0)) (dSz (cwD D)) = -1
    · have hc' := (hT'.pl (dG (sD S) (p * 5 + 0))).mpr hc
      rw [if_pos ⟨hp, h, hc'⟩] at e
      rw [if_pos hc, fsR_set n (i + 1) _ p (by rw [e]; exact nI_n1 (by omega)), e]
    · have hc' := mt (hT'.pl (dG (sD S) (p * 5 + 0))).mp hc
      rw [if_neg (fun q => hc' q.2.2)] at e
      rw [if_neg hc]
      exact fsR_r hj n (i + 1) (ndS (setTrl S (pdD (sTr S))) (nI i)) (cwD D) p hT' (by omega) (by omega) hp (e.trans h) hc'
theorem fil_at (f : Nat → Int32) : ∀ n p, p < n → fil f n p = -1
  | 0, p, h => absurd h (Nat.not_lt_zero _)
  | n + 1, p, h => by
    unfold fil
    by_cases e : p = n
    · subst e; exact upd_at _ _ _
    · rw [upd_ne _ _ e]
      exact fil_at f n p (by omega)
theorem fsS_r {j : Nat} (hj : j < 512) {S : gGS} {M : gMo} (h : Rel j S M) {p : Nat} (hp : p < dSz (sD S)) : sDb (fsS S) p = dtC (dG (sD S) (p * 5 + 0)) 60 1 (mD M) := by
  obtain ⟨hDR, hDI, hz, hy⟩ := h.1
  have esz := h.1.dm.2.1
  have h10 := hDI.ok.1
  refine fsR_r (by omega) 60 1 (setTrl (setDb S (fil (sDb S) 10)) (sD S)) (mD M) p ⟨hDR, hDI, hz⟩ (by omega) (by omega) hp (fil_at _ 10 p (by omega)) ?_
  show ¬ plc (dG (sD S)) (dG (sD S) (p * 5 + 0)) (dSz (sD S)) 0 = -1
  rcases plc_s (dG (sD S)) (dG (sD S) (p * 5 + 0)) (dSz (sD S)) 0 (by omega) with ⟨-, h2⟩ | ⟨q, -, h2, h3, -⟩
  · exact absurd rfl (h2 p (Nat.zero_le _) (by omega))
  · rw [h3]
    exact nI_n1 (by omega)
theorem Rel.fs {j : Nat} {S : gGS} {M : gMo} (h : Rel j S M) : Rel j (fsS S) M := by
  obtain ⟨T, f, e⟩ := fsR_keep 60 1 (setTrl (setDb S (fil (sDb S) 10)) (sD S))
  have e2 : fsS S = setDb (setTrl (setTrl (setDb S (fil (sDb S) 10)) (sD S)) T) f := e
  rw [e2]
  exact h
theorem c_doneIn (j : Nat) (S : gGS) (M : gMo) (o : Nat → Int64) (a0 : Int32) (hj : j < 512) (h : Rel j S M) : prP (Rel (j + 1)) S M o K_Lw_doneIn K_Mo_doneIn [.int a0] := by
  have hok := h.go
  have hr := h.2.1
  have ho := h.2.2.2.2.1
  have sc := (h.mono (Nat.le_succ j)).scr
  have esz := h.1.dm.2.1
  have hrk := h.1.2.1.ok
  rcases place_r h.1 a0 with ⟨h1, h2⟩ | ⟨p, q, hp, hq, h1, h2, hrow, hx⟩
  · exact pr_x (by decide) (by decide) hr ho (w_doneIn_x1 _ S S o (by decide) hr hr (m_doneIn_x S hok _ h1)) (n_doneIn_x M _ hrk.1 h2) (sc 1)
  · have hm := m_doneIn S hok a0 p (by rw [esz]; exact hp) h1
    rw [fsS_r hj h (by rw [esz]; exact hp), (row_eq.mp hrow 0 (by omega)).trans hx] at hm
    have hf := (h.mono (Nat.le_succ j)).fs
    have h10 := hrk.1
    exact pr_ok (S' := fsS S) (by decide) hf.2.1 (w_doneIn _ S (fsS S) o (by decide) hr hf.2.1 _ hm) (n_doneIn M hrk ho a0 (by rw [h2]; exact nI_n1 (by omega))) rfl (hf.scr 0)
