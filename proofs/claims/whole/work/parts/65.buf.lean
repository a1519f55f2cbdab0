/-! append, clearBuffer -/
theorem TxR.ad {T : gTxt} {bf : Nat → Int32} {ty : Nat} (h : TxR T bf ty) {x : Int32} (h1 : ¬ x < 33) (h2 : ¬ 126 < x) (hl : ty < 60) : TxR (adT T x) (upd bf ty x) (ty + 1) := by
  obtain ⟨⟨t1, t2, t3⟩, hlen, hc⟩ := h
  have x1 := mt ilt.mpr h1
  have x2 := mt ilt.mpr h2
  rw [show (33 : Int32).toInt = 33 from rfl] at x1
  rw [show (126 : Int32).toInt = 126 from rfl] at x2
  refine ⟨⟨?_, t2, t3⟩, ?_, fun i hi => ?_⟩
  · show xLen T + 1 ≤ 60
    omega
  · show xLen T + 1 = ty + 1
    omega
  · show upd (xCod T) (xLen T) x i = upd bf ty x i ∧ 33 ≤ (upd bf ty x i).toInt ∧ (upd bf ty x i).toInt ≤ 126
    rw [hlen]
    by_cases e : i = ty
    · subst e
      rw [upd_at, upd_at]
      exact ⟨rfl, by omega, by omega⟩
    · rw [upd_ne _ _ e, upd_ne _ _ e]
      exact hc i (by omega)
theorem TxR.er {T : gTxt} {bf : Nat → Int32} {ty : Nat} (h : TxR T bf ty) : TxR (erT T) bf 0 :=
  ⟨⟨Nat.zero_le _, h.1.2.1, h.1.2.2⟩, rfl, fun i hi => absurd hi (Nat.not_lt_zero _)⟩
theorem c_append (j : Nat) (S : gGS) (M : gMo) (o : Nat → Int64) (a0 : Int32) (_ : j < 512) (h : Rel j S M) : prP (Rel (j + 1)) S M o K_Lw_append K_Mo_append [.int a0] := by
  have hok := h.go
  have hr := h.2.1
  have ho := h.2.2.2.2.1
  have hm := h.mono (Nat.le_succ j)
  have hT := h.2.2.2.2.2.2
  by_cases hx : a0 < 33 ∨ 126 < a0
  · exact pr_x (by decide) (by decide) hr ho (w_append_x1 _ S S o (by decide) hr hr (m_append_x1 S hok _ hx)) (n_append_x1 M _ hx) (hm.scr 1)
  · have h1 : ¬ a0 < 33 := fun q => hx (Or.inl q)
    have h2 : ¬ 126 < a0 := fun q => hx (Or.inr q)
    have hl60 := hT.1.1
    have hlen := hT.2.1
    by_cases hl : mTy M < 60
    · have hrel : Rel (j + 1) (setT S (adT (sT S) a0)) (wTy (wBf (wTh M 0) (upd (mBf M) (mTy M) a0)) (mTy M + 1)) := ⟨hm.1, hm.2.1, hm.2.2.1, hm.2.2.2.1, ho, hm.2.2.2.2.2.1, hT.ad h1 h2 hl⟩
      have hmm := m_append S hok a0 h1 h2 (by rw [hlen]; exact hl)
      rw [hlen] at hmm
      exact pr_ok (by decide) hrel.2.1 (w_append _ S _ o (by decide) hr hrel.2.1 _ hmm) (gXs_d (n_append M a0 h1 h2 hl) ho) rfl (hrel.scr 0)
    · exact pr_x (by decide) (by decide) hr ho (w_append_x2 _ S S o (by decide) hr hr (m_append_x2 S hok _ h1 h2 (by rw [hlen]; exact hl))) (n_append_x2 M _ h1 h2 (by omega)) (hm.scr 2)
theorem pv_ok {Rl : gGS → gMo → Prop} {S S' : gGS} {M M' : gMo} {KX KM : gK} {V : Value → Prop} {v : Value} {R1 R2 : Room} (hV : V v) (hR1 : rmL R1) (hR2 : rmL R2) (hS : sR S' < 6) (hm : gM KX R1 [.ref 0] (cGs S) (gD (.inl (some v)) (cGs S'))) (hn : gM KM R2 [.ref 0] (cMo M) (gXs (some v) M')) (hrel : ∀ od st sp, odOK od → Rl S' (wSp (wSt (wOd M' od) st) sp)) : prV Rl S M KX KM V :=
  ⟨S', M', v, R1, R2, hV, hR1, hR2, hS, hm, hn, hrel⟩
theorem c_clearBuffer (j : Nat) (S : gGS) (M : gMo) (_ : j < 512) (h : Rel j S M) : prV (Rel (j + 1)) S M K_Gs_clearBuffer K_Mo_clearBuffer (fun v => ∃ x : Int32, v = .int x) := by
  have hok := h.go
  have ho := h.2.2.2.2.1
  have hm := h.mono (Nat.le_succ j)
  have hT := h.2.2.2.2.2.2
  have hrel : Rel (j + 1) (setT S (erT (sT S))) (wTy (wTh M 0) 0) := ⟨hm.1, hm.2.1, hm.2.2.1, hm.2.2.2.1, ho, hm.2.2.2.2.2.1, hT.er⟩
  have hmm := m_clearBuffer S hok
  rw [hT.2.1] at hmm
  exact pv_ok ⟨_, rfl⟩ (by decide) (by decide) hrel.2.1 hmm (gXs_d (n_clearBuffer M) ho) (hrel.scr 0)
