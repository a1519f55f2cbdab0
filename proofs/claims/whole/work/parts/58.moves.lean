/-! THE MOVES store, cut, tip, sweep, set -/
theorem in_n {n : Nat} (hn : n < 2 ^ 31) (x : Int32) : (x < 0 ∨ nI n ≤ x) ∨ ∃ k, k < n ∧ x = nI k := by
  by_cases h : x < 0
  · exact Or.inl (Or.inl h)
  · obtain ⟨q, hq, rfl⟩ := nI_of h
    by_cases hqn : q < n
    · exact Or.inr ⟨q, hqn, rfl⟩
    · exact Or.inl (Or.inr ((nI_leI hn hq).mpr (by omega)))
theorem in_4 (x : Int32) : (x < 0 ∨ 4 ≤ x) ∨ ∃ k, k < 4 ∧ x = nI k := in_n (by decide) x
theorem in_6 (x : Int32) : (x < 0 ∨ 6 ≤ x) ∨ ∃ k, k < 6 ∧ x = nI k := in_n (by decide) x
theorem i1 : (1 : Int32).toInt = 1 := rfl
theorem RelD.eq {j : Nat} {DC D : gDom} (h : RelD j DC D) : ∃ g, DC = setG D g := by
  obtain ⟨⟨g, e, -⟩, -⟩ := h
  exact ⟨g, e⟩
theorem DI.sto {j : Nat} {D : gDom} (h : DI j D) {k : Nat} {v : Int32} (hk : k < 4) (h1 : ¬ v < 1) (h2 : ¬ 99 < v) (h3 : ¬ 999 < dSh D k + v) : DI j (stoD D k v) := by
  refine ⟨h.ok, h.st, h.tr, h.rw, h.ds, h.nb, fun t ht => ?_, h.cu, h.la, h.sw, h.co, h.hs, h.cn, h.dn, h.ld, h.dy⟩
  show 0 ≤ (upd _ _ _ t).toInt ∧ (upd _ _ _ t).toInt ≤ 999
  have hs := h.sh k hk
  have v1 := mt ilt.mpr h1
  have v2 := mt ilt.mpr h2
  have v3 := mt ilt.mpr h3
  rw [i1] at v1
  rw [show (99 : Int32).toInt = 99 from rfl] at v2
  rw [show (999 : Int32).toInt = 999 from rfl] at v3
  by_cases e : t = k
  · subst e
    rw [upd_at]
    rw [ia (by omega) (by omega)] at v3 ⊢
    omega
  · rw [upd_ne _ _ e]
    exact h.sh t ht
theorem c_store (j : Nat) (S : gGS) (M : gMo) (o : Nat → Int64) (a0 a1 : Int32) (_ : j < 512) (h : Rel j S M) : prP (Rel (j + 1)) S M o K_Lw_store K_Mo_store [.int a0, .int a1] := by
  have hok := h.go
  have hr := h.2.1
  have hn := h.2.2.2.1
  have ho := h.2.2.2.2.1
  have sc := (h.mono (Nat.le_succ j)).scr
  obtain ⟨g, eg⟩ := h.1.eq
  have e : dSh (sD S) = dSh (mD M) := by rw [eg]; rfl
  rcases in_4 a0 with hx | ⟨k, hk, rfl⟩
  · exact pr_x (by decide) (by decide) hr ho (w_store_x1 _ _ S S o (by decide) hr hr (m_store_x1 S hok _ _ hx)) (n_store_x1 M _ _ hx) (sc 1)
  · by_cases h12 : a1 < 1 ∨ 99 < a1
    · exact pr_x (by decide) (by decide) hr ho (w_store_x2 _ _ S S o (by decide) hr hr (m_store_x2 S hok k _ hk h12)) (n_store_x2 M k _ hk h12) (sc 2)
    · have h1 : ¬ a1 < 1 := fun q => h12 (Or.inl q)
      have h2 : ¬ 99 < a1 := fun q => h12 (Or.inr q)
      by_cases h3 : 999 < dSh (mD M) k + a1
      · exact pr_x (by decide) (by decide) hr ho (w_store_x3 _ _ S S o (by decide) hr hr (m_store_x3 S hok k _ hk h1 h2 (by rw [e]; exact h3))) (n_store_x3 M k _ hk h1 h2 h3) (sc 3)
      · have hd : RelD (j + 1) (stoD (sD S) k a1) (stoD (mD M) k a1) := by
          obtain ⟨⟨g, e, hp, hs⟩, hDI, hz, hy⟩ := h.1
          refine ⟨⟨g, ?_, hp, hs⟩, (hDI.mono (Nat.le_succ j)).sto hk h1 h2 h3, hz, hy⟩
          rw [e]
          rfl
        have hm := m_store S hok k a1 hk h1 h2 (by rw [e]; exact h3)
        rw [e] at hm
        have hmv := h.move hd
        exact pr_ok (by decide) hmv.2.1 (w_store _ _ S _ o (by decide) hr hmv.2.1 _ hm) (gXs_d (n_store M hn k a1 hk h1 h2 h3) ho) rfl (hmv.scr 0)
theorem cutI_b {j : Nat} {D : gDom} (h : DI j D) {a : Nat} (ha : a < 6) : 0 ≤ (cutI D a).toInt ∧ (cutI D a).toInt ≤ (dSt D 0).toInt ∧ tot (dTr D) a + (cutI D a).toInt ≤ 500 := by
  have hst := h.st
  unfold stE at hst
  have hf := frI_b h.tr ha (r := dSt D 1) (by omega) (by omega)
  have ht := h.tr.2 a ha
  unfold cutI
  split
  · have := ilt.mp ‹_›
    omega
  · have := mt ilt.mpr ‹_›
    omega
theorem DI.cut {j : Nat} (hj : j ≤ 600) {D : gDom} (h : DI j D) {k a : Nat} (hk : k < 4) (ha : a < 6) (h0 : ¬ dSh D k = 0) : DI (j + 1) (cutD D k a) := by
  have hst := h.st
  unfold stE at hst
  have hc := cutI_b h ha
  have hcell := h.tr.cell ha hk
  have hsh := h.sh k hk
  have hsh0 := mt ieq.mpr h0
  rw [i0] at hsh0
  have hs1 : 1 ≤ (dSh D k).toInt := by
    have := hsh.1
    clear hst hc hcell h
    omega
  have hcu := h.cu k hk
  have big := h.big.2.2.2.2 k hk
  have hsw := h.sw k hk
  have hcn := h.cn
  have m1 : (-1 : Int32).toInt = -1 := rfl
  have e1 : (dTr D (a * 4 + k) + cutI D a).toInt = (dTr D (a * 4 + k)).toInt + (cutI D a).toInt := ia (by omega) (by omega)
  have e2 : (dCu D k + dSt D 0).toInt = (dCu D k).toInt + (dSt D 0).toInt := ia (by omega) (by omega)
  have e3 : (dSt D 0 - cutI D a).toInt = (dSt D 0).toInt - (cutI D a).toInt := is (by omega) (by omega)
  have e4 : (dSw D k + (dSt D 0 - cutI D a)).toInt = (dSw D k).toInt + (dSt D 0 - cutI D a).toInt := ia (by omega) (by omega)
  have e5 : (dSh D k + (-1)).toInt = (dSh D k).toInt - 1 := by
    rw [ia (by rw [m1]; omega) (by rw [m1]; omega), m1]
    rfl
  refine ⟨h.ok, h.st, h.tr.upd ha hk (by rw [e1]; omega) (by rw [e1]; omega), h.rw, h.ds, h.nb, fun t ht => ?_, fun t ht => ?_, h.la, fun t ht => ?_, ?_, h.hs, ?_, h.dn, h.ld, h.dy⟩
  · show 0 ≤ (upd _ _ _ t).toInt ∧ (upd _ _ _ t).toInt ≤ 999
    by_cases e : t = k
    · subst e
      rw [upd_at, e5]
      exact ⟨Int.sub_nonneg_of_le hs1, Int.le_trans (Int.sub_le_self _ (by decide)) hsh.2⟩
    · rw [upd_ne _ _ e]
      exact h.sh t ht
  · show 0 ≤ (upd _ _ _ t).toInt ∧ (upd _ _ _ t).toInt ≤ 200 * ((j + 1 : Nat) : Int)
    by_cases e : t = k
    · subst e
      rw [upd_at, e2]
      omega
    · rw [upd_ne _ _ e]
      have := h.cu t ht
      omega
  · show 0 ≤ (upd _ _ _ t).toInt
    by_cases e : t = k
    · subst e
      rw [upd_at, e4]
      omega
    · rw [upd_ne _ _ e]
      exact h.sw t ht
  · have co := h.co
    show sm (upd _ _ _) 24 + sm (dLa D) 4 + sm (upd _ _ _) 4 = sm (upd _ _ _) 4
    rw [sm_upd (by omega), sm_upd hk, sm_upd hk, e1, e2, e4]
    omega
  · show 0 ≤ (dC D).toInt ∧ (dC D).toInt ≤ 10 * ((j + 1 : Nat) : Int)
    omega
theorem cutD_e (D : gDom) (k a : Nat) : (upd (dTr D) (a * 4 + k) (dTr D (a * 4 + k) + cutI D a), dG D, dSz D, dC D, dSt D, upd (dSh D) k (dSh D k - 1), upd (dCu D) k (dCu D k + dSt D 0), dLa D, upd (dSw D) k (dSw D k + (dSt D 0 - cutI D a)), dDy D, dDn D, dLt D, dLd D, dSo D) = cutD D k a := by
  rw [Int32.sub_eq_add_neg]
  rfl
theorem c_cut (j : Nat) (S : gGS) (M : gMo) (o : Nat → Int64) (a0 a1 : Int32) (hj : j < 512) (h : Rel j S M) : prP (Rel (j + 1)) S M o K_Lw_cut K_Mo_cut [.int a0, .int a1] := by
  have hok := h.go
  have hr := h.2.1
  have hn := h.2.2.2.1
  have ho := h.2.2.2.2.1
  have sc := (h.mono (Nat.le_succ j)).scr
  obtain ⟨g, eg⟩ := h.1.eq
  have e : dSh (sD S) = dSh (mD M) := by rw [eg]; rfl
  rcases in_4 a0 with hx | ⟨k, hk, rfl⟩
  · exact pr_x (by decide) (by decide) hr ho (w_cut_x1 _ _ S S o (by decide) hr hr (m_cut_x1 S hok _ _ hx)) (n_cut_x1 M _ _ hx) (sc 1)
  · rcases in_6 a1 with hx | ⟨a, ha, rfl⟩
    · exact pr_x (by decide) (by decide) hr ho (w_cut_x1 _ _ S S o (by decide) hr hr (m_cut_x2 S hok k _ hk hx)) (n_cut_x2 M k _ hk hx) (sc 1)
    · have hsh := h.1.2.1.sh k hk
      have hiff : dSh (sD S) k < 1 ↔ dSh (mD M) k = 0 := by
        rw [e, ilt, ieq, i0, i1]
        omega
      by_cases h0 : dSh (mD M) k = 0
      · exact pr_x (by decide) (by decide) hr ho (w_cut_x2 _ _ S S o (by decide) hr hr (m_cut_x3 S hok k a hk ha (hiff.mpr h0))) (n_cut_x3 M k a hk ha h0) (sc 2)
      · have hd : RelD (j + 1) (cutD (sD S) k a) (cutD (mD M) k a) := by
          obtain ⟨⟨g, e, hp, hs⟩, hDI, hz, hy⟩ := h.1
          refine ⟨⟨g, ?_, hp, hs⟩, hDI.cut (by omega) hk ha h0, hz, hy⟩
          rw [e]
          rfl
        have hm := m_cut S hok k a hk ha (fun q => h0 (hiff.mp q))
        have ec : cutI (sD S) a = cutI (mD M) a := by rw [eg]; rfl
        rw [ec] at hm
        have hmv := h.move hd
        have hnn := n_cut M hn k a hk ha h0
        rw [cutD_e] at hnn
        exact pr_ok (by decide) hmv.2.1 (w_cut _ _ S _ o (by decide) hr hmv.2.1 _ hm) (gXs_d hnn ho) rfl (hmv.scr 0)
theorem tip_r {f : Nat → Int32} (h : trI f) {a b : Nat} (ha : a < 6) (hb : b < 6) (hab : a ≠ b) {r : Int32} (h0 : 0 ≤ r.toInt) (h5 : r.toInt ≤ 500) : ∀ t, t ≤ 4 → trI (tipR a b r f t).1 ∧ sm (tipR a b r f t).1 24 = sm f 24
  | 0, _ => ⟨h, rfl⟩
  | t + 1, ht => by
    obtain ⟨h1, h2⟩ := tip_r h ha hb hab h0 h5 t (by omega)
    have hf := frI_b h1 hb h0 h5
    have hp := pmI_b h1 ha (show t < 4 by omega) (r := frI (tipR a b r f t).1 b r) hf.1
    have ht5 := h1.2 b hb
    obtain ⟨p1, p2⟩ := pour_ok h1 ha hb hab (show t < 4 by omega) hp.1 hp.2.2 (by omega)
    exact ⟨p1, p2.trans h2⟩
theorem c_tip (j : Nat) (S : gGS) (M : gMo) (o : Nat → Int64) (a0 a1 : Int32) (_ : j < 512) (h : Rel j S M) : prP (Rel (j + 1)) S M o K_Lw_tip K_Mo_tip [.int a0, .int a1] := by
  have hok := h.go
  have hr := h.2.1
  have hn := h.2.2.2.1
  have ho := h.2.2.2.2.1
  have sc := (h.mono (Nat.le_succ j)).scr
  rcases in_6 a0 with hx | ⟨a, ha, rfl⟩
  · exact pr_x (by decide) (by decide) hr ho (w_tip_x1 _ _ S S o (by decide) hr hr (m_tip_x1 S hok _ _ hx)) (n_tip_x1 M _ _ hx) (sc 1)
  · rcases in_6 a1 with hx | ⟨b, hb, rfl⟩
    · exact pr_x (by decide) (by decide) hr ho (w_tip_x1 _ _ S S o (by decide) hr hr (m_tip_x2 S hok a _ ha hx)) (n_tip_x2 M a _ ha hx) (sc 1)
    · by_cases hab : a = b
      · subst hab
        exact pr_x (by decide) (by decide) hr ho (w_tip_x2 _ _ S S o (by decide) hr hr (m_tip_x3 S hok a ha)) (n_tip_x3 M a ha) (sc 2)
      · have hd : RelD (j + 1) (tipD (sD S) a b) (tipD (mD M) a b) := by
          obtain ⟨⟨g, e, hp, hs⟩, hDI0, hz, hy⟩ := h.1
          have hDI := hDI0.mono (Nat.le_succ j)
          have hst := hDI.st
          unfold stE at hst
          obtain ⟨t1, t2⟩ := tip_r hDI.tr ha hb hab (r := dSt (mD M) 1) (by omega) (by omega) 4 (Nat.le_refl 4)
          have co := hDI.co
          refine ⟨⟨g, ?_, hp, hs⟩, ⟨hDI.ok, hDI.st, t1, hDI.rw, hDI.ds, hDI.nb, hDI.sh, hDI.cu, hDI.la, hDI.sw, ?_, hDI.hs, hDI.cn, hDI.dn, hDI.ld, hDI.dy⟩, hz, hy⟩
          · rw [e]
            rfl
          · show sm (tipR _ _ _ _ _).1 24 + _ + _ = _
            rw [t2]
            exact co
        have hm := m_tip S hok a b ha hb hab
        obtain ⟨g, eg⟩ := h.1.eq
        have ec : (tipR a b (dSt (sD S) 1) (dTr (sD S)) 4).2 = (tipR a b (dSt (mD M) 1) (dTr (mD M)) 4).2 := by rw [eg]; rfl
        rw [ec] at hm
        have hmv := h.move hd
        exact pr_ok (by decide) hmv.2.1 (w_tip _ _ S _ o (by decide) hr hmv.2.1 _ hm) (gXs_d (n_tip M hn a b ha hb hab) ho) rfl (hmv.scr 0)
