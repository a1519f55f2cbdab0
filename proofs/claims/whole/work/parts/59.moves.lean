/-! THE MOVES sweep, set, section -/
theorem sw_r {B : Int} (hB : B ≤ 1000000000) {f s : Nat → Int32} (h : trI f) (hs : ∀ u, u < 4 → 0 ≤ (s u).toInt ∧ (s u).toInt ≤ B) {a : Nat} (ha : a < 6) : ∀ t, t ≤ 4 →
    (swpR a f s t).1 = (swR a f s t).1 ∧ (swpR a f s t).2.1 = (swR a f s t).2 ∧ trI (swR a f s t).1 ∧ (∀ u, u < 4 → 0 ≤ ((swR a f s t).2 u).toInt) ∧ (∀ u, t ≤ u → u < 4 → (swR a f s t).1 (a * 4 + u) = f (a * 4 + u) ∧ (swR a f s t).2 u = s u) ∧ sm (swR a f s t).1 24 + sm (swR a f s t).2 4 = sm f 24 + sm s 4
  | 0, _ => ⟨rfl, rfl, h, fun u hu => (hs u hu).1, fun u _ _ => ⟨rfl, rfl⟩, rfl⟩
  | t + 1, ht => by
    obtain ⟨h1, h2, h3, h4, h5, h6⟩ := sw_r hB h hs ha t (by omega)
    have ht4 : t < 4 := by omega
    obtain ⟨e1, e2⟩ := h5 t (Nat.le_refl t) ht4
    have hc := h3.cell ha ht4
    have hst := hs t ht4
    rw [e1] at hc
    have ea : (s t + f (a * 4 + t)).toInt = (s t).toInt + (f (a * 4 + t)).toInt := ia (by omega) (by omega)
    have hz : (swR a f s (t + 1)) = (upd (swR a f s t).1 (a * 4 + t) 0, upd (swR a f s t).2 t (s t + f (a * 4 + t))) := by
      show (upd (swR a f s t).1 (a * 4 + t) 0, upd (swR a f s t).2 t ((swR a f s t).2 t + (swR a f s t).1 (a * 4 + t))) = _
      rw [e1, e2]
    have hy : (swpR a f s (t + 1)).1 = upd (swR a f s t).1 (a * 4 + t) 0 ∧ (swpR a f s (t + 1)).2.1 = upd (swR a f s t).2 t (s t + f (a * 4 + t)) := by
      show upd (swpR a f s t).1 (a * 4 + t) ((swpR a f s t).1 (a * 4 + t) + -((swpR a f s t).1 (a * 4 + t))) = _ ∧ upd (swpR a f s t).2.1 t ((swpR a f s t).2.1 t + (swpR a f s t).1 (a * 4 + t)) = _
      rw [h1, h2, Int32.add_right_neg, e1, e2]
      exact ⟨rfl, rfl⟩
    rw [hz]
    refine ⟨hy.1, hy.2, h3.upd ha ht4 (by rw [i0]; exact Int.le_refl 0) (by rw [i0, e1]; omega), fun u hu => ?_, fun u hu1 hu2 => ?_, ?_⟩
    · show 0 ≤ (upd _ _ _ u).toInt
      by_cases e : u = t
      · subst e
        rw [upd_at, ea]
        omega
      · rw [upd_ne _ _ e]
        exact h4 u hu
    · show upd _ _ _ _ = _ ∧ upd _ _ _ _ = _
      rw [upd_ne _ _ (by omega), upd_ne _ _ (by omega)]
      exact h5 u (by omega) hu2
    · show sm (upd _ _ _) 24 + sm (upd _ _ _) 4 = _
      rw [sm_upd (by omega), sm_upd ht4, e1, e2, ea, i0]
      omega
theorem sw_v {B : Int} (hB : B ≤ 1000000000) {f s : Nat → Int32} (h : trI f) (hs : ∀ u, u < 4 → 0 ≤ (s u).toInt ∧ (s u).toInt ≤ B) {a : Nat} (ha : a < 6) : (swpR a f s 4).2.2 = hA f a := by
  have k := fun t (ht : t < 4) => ((sw_r hB h hs ha t (by omega)).2.2.2.2.1 t (Nat.le_refl t) ht).1
  have k1 := fun t (ht : t < 4) => (sw_r hB h hs ha t (by omega)).1
  show (((0 + (swpR a f s 0).1 (a * 4 + 0)) + (swpR a f s 1).1 (a * 4 + 1)) + (swpR a f s 2).1 (a * 4 + 2)) + (swpR a f s 3).1 (a * 4 + 3) = _
  rw [k1 0 (by omega), k1 1 (by omega), k1 2 (by omega), k1 3 (by omega), k 0 (by omega), k 1 (by omega), k 2 (by omega), k 3 (by omega)]
  rfl
theorem c_sweep (j : Nat) (S : gGS) (M : gMo) (o : Nat → Int64) (a0 : Int32) (hj : j < 512) (h : Rel j S M) : prP (Rel (j + 1)) S M o K_Lw_sweep K_Mo_sweep [.int a0] := by
  have hok := h.go
  have hr := h.2.1
  have hn := h.2.2.2.1
  have ho := h.2.2.2.2.1
  have sc := (h.mono (Nat.le_succ j)).scr
  rcases in_6 a0 with hx | ⟨a, ha, rfl⟩
  · exact pr_x (by decide) (by decide) hr ho (w_sweep_x1 _ S S o (by decide) hr hr (m_sweep_x S hok _ hx)) (n_sweep_x M _ hx) (sc 1)
  · have hDI0 := h.1.2.1
    have big := hDI0.big.2.2.2.2
    have hs : ∀ u, u < 4 → 0 ≤ (dSw (mD M) u).toInt ∧ (dSw (mD M) u).toInt ≤ 800 * (j : Int) := fun u hu => ⟨hDI0.sw u hu, (big u hu).2⟩
    have hB : 800 * (j : Int) ≤ 1000000000 := by omega
    obtain ⟨s1, s2, s3, s4, -, s6⟩ := sw_r hB hDI0.tr hs ha 4 (Nat.le_refl 4)
    have hd : RelD (j + 1) (swpD (sD S) a) ((swR a (dTr (mD M)) (dSw (mD M)) 4).1, dG (mD M), dSz (mD M), dC (mD M), dSt (mD M), dSh (mD M), dCu (mD M), dLa (mD M), (swR a (dTr (mD M)) (dSw (mD M)) 4).2, dDy (mD M), dDn (mD M), dLt (mD M), dLd (mD M), dSo (mD M)) := by
      obtain ⟨⟨g, e, hp, hsr⟩, -, hz, hy⟩ := h.1
      have hDI := hDI0.mono (Nat.le_succ j)
      have co := hDI.co
      refine ⟨⟨g, ?_, hp, hsr⟩, ⟨hDI.ok, hDI.st, s3, hDI.rw, hDI.ds, hDI.nb, hDI.sh, hDI.cu, hDI.la, s4, ?_, hDI.hs, hDI.cn, hDI.dn, hDI.ld, hDI.dy⟩, hz, hy⟩
      · rw [e]
        unfold swpD
        show ((swpR a (dTr (mD M)) (dSw (mD M)) 4).1, g, dSz (mD M), dC (mD M), dSt (mD M), dSh (mD M), dCu (mD M), dLa (mD M), (swpR a (dTr (mD M)) (dSw (mD M)) 4).2.1, dDy (mD M), dDn (mD M), dLt (mD M), dLd (mD M), dSo (mD M)) = _
        rw [s1, s2]
        rfl
      · show sm (swR _ _ _ _).1 24 + sm (dLa (mD M)) 4 + sm (swR _ _ _ _).2 4 = sm (dCu (mD M)) 4
        omega
    have hm := m_sweep S hok a ha
    obtain ⟨g, eg⟩ := h.1.eq
    have ec : (swpR a (dTr (sD S)) (dSw (sD S)) 4).2.2 = hA (dTr (mD M)) a := by
      rw [eg]
      exact sw_v hB hDI0.tr hs ha
    rw [ec] at hm
    have hmv := h.move hd
    exact pr_ok (by decide) hmv.2.1 (w_sweep _ S _ o (by decide) hr hmv.2.1 _ hm) (gXs_d (n_sweep M hn a ha) ho) rfl (hmv.scr 0)
theorem stD_e (D : gDom) (k : Nat) (v : Int32) : (dTr D, dG D, dSz D, dC D, upd (dSt D) k v, dSh D, dCu D, dLa D, dSw D, dDy D, dDn D, dLt D, dLd D, dSo D) = stD D k v := rfl
theorem c_set (j : Nat) (S : gGS) (M : gMo) (o : Nat → Int64) (a0 a1 : Int32) (_ : j < 512) (h : Rel j S M) : prP (Rel (j + 1)) S M o K_Lw_set K_Mo_set [.int a0, .int a1] := by
  have hok := h.go
  have hr := h.2.1
  have hn := h.2.2.2.1
  have ho := h.2.2.2.2.1
  have sc := (h.mono (Nat.le_succ j)).scr
  rcases in_6 a0 with hx | ⟨k, hk, rfl⟩
  · exact pr_x (by decide) (by decide) hr ho (w_set_x1 _ _ S S o (by decide) hr hr (m_set_x1 S hok _ _ hx)) (n_set_x1 M _ _ hx) (sc 1)
  · by_cases h12 : a1 < gLo k ∨ gHi k < a1
    · exact pr_x (by decide) (by decide) hr ho (w_set_x2 _ _ S S o (by decide) hr hr (m_set_x2 S hok k _ hk h12)) (n_set_x2 M k _ hk (Or.inl h12)) (sc 2)
    · have h1 : ¬ a1 < gLo k := fun q => h12 (Or.inl q)
      have h2 : ¬ gHi k < a1 := fun q => h12 (Or.inr q)
      by_cases h3 : k = 5 ∧ a1 = 1
      · obtain ⟨rfl, rfl⟩ := h3
        exact pr_x (by decide) (by decide) hr ho (w_set_x2 _ _ S S o (by decide) hr hr (m_set_x3 S hok)) (n_set_x2 M 5 _ hk (Or.inr ⟨rfl, rfl⟩)) (sc 2)
      · have hd : RelD (j + 1) (chgD (sD S) k a1) (stD (mD M) k a1) := by
          obtain ⟨hDR, hDI, hz, hy⟩ := h.1
          exact ⟨chg_r hDI hDR k a1, (hDI.mono (Nat.le_succ j)).set hk h1 h2 h3, hz, hy⟩
        have hm := m_set S hok k a1 hk h1 h2 h3
        obtain ⟨g, eg⟩ := h.1.eq
        have ec : dSt (sD S) k = dSt (mD M) k := by rw [eg]; rfl
        rw [ec] at hm
        have hnn := n_set M hn k a1 hk h1 h2 h3
        rw [stD_e] at hnn
        have hmv := h.move hd
        exact pr_ok (by decide) hmv.2.1 (w_set _ _ S _ o (by decide) hr hmv.2.1 _ hm) (gXs_d hnn ho) rfl (hmv.scr 0)
/-! a section more -/
theorem adF_at (g : Nat → Int32) (n : Nat) (c t u d : Int32) (q k : Nat) (hk : k < 5) : adF g n c t u d (q * 5 + k) = if q = n then (if k = 0 then c else if k = 1 then t else if k = 2 then u else if k = 3 then d else 0) else g (q * 5 + k) := by
  unfold adF
  by_cases hq : q = n
  · subst hq
    rw [if_pos rfl]
    obtain rfl | rfl | rfl | rfl | rfl : k = 0 ∨ k = 1 ∨ k = 2 ∨ k = 3 ∨ k = 4 := by omega
    · rw [upd_ne _ _ (by omega), upd_ne _ _ (by omega), upd_ne _ _ (by omega), upd_ne _ _ (by omega), upd_at]; rfl
    · rw [upd_ne _ _ (by omega), upd_ne _ _ (by omega), upd_ne _ _ (by omega), upd_at]; rfl
    · rw [upd_ne _ _ (by omega), upd_ne _ _ (by omega), upd_at]; rfl
    · rw [upd_ne _ _ (by omega), upd_at]; rfl
    · rw [upd_at]; rfl
  · rw [if_neg hq, upd_ne _ _ (by omega), upd_ne _ _ (by omega), upd_ne _ _ (by omega), upd_ne _ _ (by omega), upd_ne _ _ (by omega)]
theorem row_ad (g : Nat → Int32) (n : Nat) (c t u d : Int32) (q : Nat) : row (adF g n c t u d) q = if q = n then (c, t, u, d, 0) else row g q := by
  unfold row
  rw [adF_at _ _ _ _ _ _ _ _ (by omega), adF_at _ _ _ _ _ _ _ _ (by omega), adF_at _ _ _ _ _ _ _ _ (by omega), adF_at _ _ _ _ _ _ _ _ (by omega), adF_at _ _ _ _ _ _ _ _ (by omega)]
  split <;> rfl
theorem rows_ad (g : Nat → Int32) (n : Nat) (c t u d : Int32) : rows (adF g n c t u d) (n + 1) = rows g n ++ [(c, t, u, d, 0)] := by
  rw [rows_s, row_ad, if_pos rfl, rows_c (g' := g) fun p hp => by rw [row_ad, if_neg (by omega)]]
theorem hsu_ad {g : Nat → Int32} {m : Nat} {c t u d : Int32} {x : Nat} : hsu (adF g m c t u d) x (m + 1) = hsu g x m := by
  have e : hsu (adF g m c t u d) x m = hsu g x m := hs_c fun p hp => by
    rw [adF_at _ _ _ _ _ _ _ _ (by omega), adF_at _ _ _ _ _ _ _ _ (by omega), if_neg (by omega), if_neg (by omega)]
    exact ⟨rfl, rfl⟩
  show hsu (adF g m c t u d) x m + _ = _
  rw [e, adF_at _ _ _ _ _ _ _ _ (show 4 < 5 by omega), if_pos rfl]
  have : (if (4 : Nat) = 0 then c else if (4 : Nat) = 1 then t else if (4 : Nat) = 2 then u else if (4 : Nat) = 3 then d else 0) = 0 := rfl
  rw [this, i0]
  split <;> omega
