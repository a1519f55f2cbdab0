/-! laidShare, digest; the law's calls all together -/
theorem c_laidShare (j : Nat) (S : gGS) (M : gMo) (hj : j < 512) (h : Rel j S M) : prV (Rel (j + 1)) S M K_Gs_laidShare K_Mo_laidShare (fun v => ∃ x : UInt64, v = .double x) := by
  have hok := h.go
  have ho := h.2.2.2.2.1
  have hm := h.mono (Nat.le_succ j)
  obtain ⟨e, -, q1, q2, -, -⟩ := share_r hj h.1
  have hmm := m_laidShare S hok q1
  rw [e] at hmm
  exact pv_ok ⟨_, rfl⟩ (by decide) (by decide) hm.2.1 hmm (gXs_d (n_laidShare M q2) ho) (hm.scr 0)
theorem c_digest (j : Nat) (S : gGS) (M : gMo) (hj : j < 512) (h : Rel j S M) : prV (Rel (j + 1)) S M K_Gs_digest K_Mo_digest (fun v => ∃ x : Int64, v = .long x) := by
  have hok := h.go
  have ho := h.2.2.2.2.1
  have hn := h.2.2.2.1
  have hT := h.2.2.2.2.2.2
  have h60 : mTy M ≤ 60 := by
    have a := hT.1.1
    have b := hT.2.1
    omega
  have hrs := h.1.rs
  have hm := h.mono (Nat.le_succ j)
  obtain ⟨-, lk, -, q2, eb, qk⟩ := share_r hj h.1
  obtain ⟨d, hd⟩ : ∃ d : Nat, d = 5 := ⟨_, rfl⟩
  obtain ⟨e, he⟩ : ∃ e : Nat, e = 9 := ⟨_, rfl⟩
  obtain ⟨x, hx⟩ : ∃ x : Int64, x = 3023 := ⟨_, rfl⟩
  have hmm := m_digest S hok d e hd he lk
  rw [dg_r hj h (show d ≤ 60 by omega) (show e ≤ 30 by omega) eb x hx] at hmm
  have hr : Rel (j + 1) (dgS d e S) M := (q5_4 hm.fs d).tr e 1
  exact pv_ok ⟨_, rfl⟩ (by decide) (by decide) hr.2.1 hmm (n_digest M hn h60 hrs 60 q2 qk ho d e hd he x hx) (fun od st sp o => ⟨hr.1, hr.2.1, hr.2.2.1, hr.2.2.2.1, o, hr.2.2.2.2.2.1, hr.2.2.2.2.2.2⟩)
theorem law_hyp : LawHyp Rel := ⟨fun _ _ _ h => h.2.1, fun j _ _ h => h.mono (Nat.le_succ j), c_store, c_cut, c_tip, c_sweep, c_section, c_drop, c_set, c_pass, c_append, c_clearBuffer, c_firstError, c_addAll, c_undo, c_tray, c_sectionOf, c_tone, c_count, c_setting, c_taken, c_missing, c_ifPassed, c_doneIn, c_bestOrder, c_laidShare, c_digest⟩
