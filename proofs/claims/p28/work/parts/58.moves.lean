/-! THE PURE HALF, taken over from whole by wip/p28/port2.py -/
/-! THE MOVES store, cut, tip, sweep, set -/
theorem in_n {n : Nat} (hn : n < 2 ^ 31) (x : Int32) : (x < 0 ∨ nI n ≤ x) ∨ ∃ k, k < n ∧ x = nI k := by
  by_cases h : x < 0
  · exact Or.inl (Or.inl h)
  · obtain ⟨q, hq, rfl⟩ := nI_of h
    by_cases hqn : q < n
    · exact Or.inr ⟨q, hqn, rfl⟩
    · exact Or.inl (Or.inr ((nI_leI hn hq).mpr (by omega)))
theorem in_4 (x : Int32) : (x < 0 ∨ 4 ≤ x) ∨ ∃ k, k < 4 ∧ x = nI k := in_n (by decide) x
theorem in_6 (x : Int32) : (x < 0 ∨ 6 ≤ x) ∨ ∃ k, k < 6 ∧ x = nI k := in_n (by decide) x
theorem i1 : (1 : Int32).toInt = 1 := rfl
theorem RelD.eq {j : Nat} {DC D : gDom} (h : RelD j DC D) : ∃ g, DC = setG D g := by
  obtain ⟨⟨g, e, -⟩, -⟩ := h
  exact ⟨g, e⟩
theorem DI.sto {j : Nat} {D : gDom} (h : DI j D) {k : Nat} {v : Int32} (hk : k < 4) (h1 : ¬ v < 1) (h2 : ¬ 99 < v) (h3 : ¬ 999 < dSh D k + v) : DI j (stoD D k v) := by
  refine ⟨h.ok, h.st, h.tr, h.rw, h.ds, h.nb, fun t ht => ?_, h.cu, h.la, h.sw, h.co, h.hs, h.cn, h.dn, h.ld, h.dy⟩
  show 0 ≤ (upd _ _ _ t).toInt ∧ (upd _ _ _ t).toInt ≤ 999
  have hs := h.sh k hk
  have v1 := mt ilt.mpr h1
  have v2 := mt ilt.mpr h2
  have v3 := mt ilt.mpr h3
  rw [i1] at v1
  rw [show (99 : Int32).toInt = 99 from rfl] at v2
  rw [show (999 : Int32).toInt = 999 from rfl] at v3
  by_cases e : t = k
  · subst e
    rw [upd_at]
    rw [ia (by omega) (by omega)] at v3 ⊢
    omega
  · rw [upd_ne _ _ e]
    exact h.sh t ht
theorem cutI_b {j : Nat} {D : gDom} (h : DI j D) {a : Nat} (ha : a < 6) : 0 ≤ (cutI D a).toInt ∧ (cutI D a).toInt ≤ (dSt D 0).toInt ∧ tot (dTr D) a + (cutI D a).toInt ≤ 500 := by
  have hst := h.st
  unfold stE at hst
  have hf := frI_b h.tr ha (r := dSt D 1) (by omega) (by omega)
  have ht := h.tr.2 a ha
  unfold cutI
  split
  · have := ilt.mp ‹_›
    omega
  · have := mt ilt.mpr ‹_›
    omega
theorem DI.cut {j : Nat} (hj : j ≤ 600) {D : gDom} (h : DI j D) {k a : Nat} (hk : k < 4) (ha : a < 6) (h0 : ¬ dSh D k = 0) : DI (j + 1) (cutD D k a) := by
  have hst := h.st
  unfold stE at hst
  have hc := cutI_b h ha
  have hcell := h.tr.cell ha hk
  have hsh := h.sh k hk
  have hsh0 := mt ieq.mpr h0
  rw [i0] at hsh0
  have hs1 : 1 ≤ (dSh D k).toInt := by
    have := hsh.1
    clear hst hc hcell h
    omega
  have hcu := h.cu k hk
  have big := h.big.2.2.2.2 k hk
  have hsw := h.sw k hk
  have hcn := h.cn
  have m1 : (-1 : Int32).toInt = -1 := rfl
  have e1 : (dTr D (a * 4 + k) + cutI D a).toInt = (dTr D (a * 4 + k)).toInt + (cutI D a).toInt := ia (by omega) (by omega)
  have e2 : (dCu D k + dSt D 0).toInt = (dCu D k).toInt + (dSt D 0).toInt := ia (by omega) (by omega)
  have e3 : (dSt D 0 - cutI D a).toInt = (dSt D 0).toInt - (cutI D a).toInt := is (by omega) (by omega)
  have e4 : (dSw D k + (dSt D 0 - cutI D a)).toInt = (dSw D k).toInt + (dSt D 0 - cutI D a).toInt := ia (by omega) (by omega)
  have e5 : (dSh D k + (-1)).toInt = (dSh D k).toInt - 1 := by
    rw [ia (by rw [m1]; omega) (by rw [m1]; omega), m1]
    rfl
  refine ⟨h.ok, h.st, h.tr.upd ha hk (by rw [e1]; omega) (by rw [e1]; omega), h.rw, h.ds, h.nb, fun t ht => ?_, fun t ht => ?_, h.la, fun t ht => ?_, ?_, h.hs, ?_, h.dn, h.ld, h.dy⟩
  · show 0 ≤ (upd _ _ _ t).toInt ∧ (upd _ _ _ t).toInt ≤ 999
    by_cases e : t = k
    · subst e
      rw [upd_at, e5]
      exact ⟨Int.sub_nonneg_of_le hs1, Int.le_trans (Int.sub_le_self _ (by decide)) hsh.2⟩
    · rw [upd_ne _ _ e]
      exact h.sh t ht
  · show 0 ≤ (upd _ _ _ t).toInt ∧ (upd _ _ _ t).toInt ≤ 200 * ((j + 1 : Nat) : Int)
    by_cases e : t = k
    · subst e
      rw [upd_at, e2]
      omega
    · rw [upd_ne _ _ e]
      have := h.cu t ht
      omega
  · show 0 ≤ (upd _ _ _ t).toInt
    by_cases e : t = k
    · subst e
      rw [upd_at, e4]
      omega
    · rw [upd_ne _ _ e]
      exact h.sw t ht
  · have co := h.co
    show sm (upd _ _ _) 24 + sm (dLa D) 4 + sm (upd _ _ _) 4 = sm (upd _ _ _) 4
    rw [sm_upd (by omega), sm_upd hk, sm_upd hk, e1, e2, e4]
    omega
  · show 0 ≤ (dC D).toInt ∧ (dC D).toInt ≤ 10 * ((j + 1 : Nat) : Int)
    omega
theorem cutD_e (D : gDom) (k a : Nat) : (upd (dTr D) (a * 4 + k) (dTr D (a * 4 + k) + cutI D a), dG D, dSz D, dC D, dSt D, upd (dSh D) k (dSh D k - 1), upd (dCu D) k (dCu D k + dSt D 0), dLa D, upd (dSw D) k (dSw D k + (dSt D 0 - cutI D a)), dDy D, dDn D, dLt D, dLd D, dSo D) = cutD D k a := by
  rw [Int32.sub_eq_add_neg]
  rfl
theorem tip_r {f : Nat → Int32} (h : trI f) {a b : Nat} (ha : a < 6) (hb : b < 6) (hab : a ≠ b) {r : Int32} (h0 : 0 ≤ r.toInt) (h5 : r.toInt ≤ 500) : ∀ t, t ≤ 4 → trI (tipR a b r f t).1 ∧ sm (tipR a b r f t).1 24 = sm f 24
  | 0, _ => ⟨h, rfl⟩
  | t + 1, ht => by
    obtain ⟨h1, h2⟩ := tip_r h ha hb hab h0 h5 t (by omega)
    have hf := frI_b h1 hb h0 h5
    have hp := pmI_b h1 ha (show t < 4 by omega) (r := frI (tipR a b r f t).1 b r) hf.1
    have ht5 := h1.2 b hb
    obtain ⟨p1, p2⟩ := pour_ok h1 ha hb hab (show t < 4 by omega) hp.1 hp.2.2 (by omega)
    exact ⟨p1, p2.trans h2⟩
/-! THE MOVES sweep, set, section -/
theorem sw_r {B : Int} (hB : B ≤ 1000000000) {f s : Nat → Int32} (h : trI f) (hs : ∀ u, u < 4 → 0 ≤ (s u).toInt ∧ (s u).toInt ≤ B) {a : Nat} (ha : a < 6) : ∀ t, t ≤ 4 →
    (swpR a f s t).1 = (swR a f s t).1 ∧ (swpR a f s t).2.1 = (swR a f s t).2 ∧ trI (swR a f s t).1 ∧ (∀ u, u < 4 → 0 ≤ ((swR a f s t).2 u).toInt) ∧ (∀ u, t ≤ u → u < 4 → (swR a f s t).1 (a * 4 + u) = f (a * 4 + u) ∧ (swR a f s t).2 u = s u) ∧ sm (swR a f s t).1 24 + sm (swR a f s t).2 4 = sm f 24 + sm s 4
  | 0, _ => ⟨rfl, rfl, h, fun u hu => (hs u hu).1, fun u _ _ => ⟨rfl, rfl⟩, rfl⟩
  | t + 1, ht => by
    obtain ⟨h1, h2, h3, h4, h5, h6⟩ := sw_r hB h hs ha t (by omega)
    have ht4 : t < 4 := by omega
    obtain ⟨e1, e2⟩ := h5 t (Nat.le_refl t) ht4
    have hc := h3.cell ha ht4
    have hst := hs t ht4
    rw [e1] at hc
    have ea : (s t + f (a * 4 + t)).toInt = (s t).toInt + (f (a * 4 + t)).toInt := ia (by omega) (by omega)
    have hz : (swR a f s (t + 1)) = (upd (swR a f s t).1 (a * 4 + t) 0, upd (swR a f s t).2 t (s t + f (a * 4 + t))) := by
      show (upd (swR a f s t).1 (a * 4 + t) 0, upd (swR a f s t).2 t ((swR a f s t).2 t + (swR a f s t).1 (a * 4 + t))) = _
      rw [e1, e2]
    have hy : (swpR a f s (t + 1)).1 = upd (swR a f s t).1 (a * 4 + t) 0 ∧ (swpR a f s (t + 1)).2.1 = upd (swR a f s t).2 t (s t + f (a * 4 + t)) := by
      show upd (swpR a f s t).1 (a * 4 + t) ((swpR a f s t).1 (a * 4 + t) + -((swpR a f s t).1 (a * 4 + t))) = _ ∧ upd (swpR a f s t).2.1 t ((swpR a f s t).2.1 t + (swpR a f s t).1 (a * 4 + t)) = _
      rw [h1, h2, Int32.add_right_neg, e1, e2]
      exact ⟨rfl, rfl⟩
    rw [hz]
    refine ⟨hy.1, hy.2, h3.upd ha ht4 (by rw [i0]; exact Int.le_refl 0) (by rw [i0, e1]; omega), fun u hu => ?_, fun u hu1 hu2 => ?_, ?_⟩
    · show 0 ≤ (upd _ _ _ u).toInt
      by_cases e : u = t
      · subst e
        rw [upd_at, ea]
        omega
      · rw [upd_ne _ _ e]
        exact h4 u hu
    · show upd _ _ _ _ = _ ∧ upd _ _ _ _ = _
      rw [upd_ne _ _ (by omega), upd_ne _ _ (by omega)]
      exact h5 u (by omega) hu2
    · show sm (upd _ _ _) 24 + sm (upd _ _ _) 4 = _
      rw [sm_upd (by omega), sm_upd ht4, e1, e2, ea, i0]
      omega
theorem sw_v {B : Int} (hB : B ≤ 1000000000) {f s : Nat → Int32} (h : trI f) (hs : ∀ u, u < 4 → 0 ≤ (s u).toInt ∧ (s u).toInt ≤ B) {a : Nat} (ha : a < 6) : (swpR a f s 4).2.2 = hA f a := by
  have k := fun t (ht : t < 4) => ((sw_r hB h hs ha t (by omega)).2.2.2.2.1 t (Nat.le_refl t) ht).1
  have k1 := fun t (ht : t < 4) => (sw_r hB h hs ha t (by omega)).1
  show (((0 + (swpR a f s 0).1 (a * 4 + 0)) + (swpR a f s 1).1 (a * 4 + 1)) + (swpR a f s 2).1 (a * 4 + 2)) + (swpR a f s 3).1 (a * 4 + 3) = _
  rw [k1 0 (by omega), k1 1 (by omega), k1 2 (by omega), k1 3 (by omega), k 0 (by omega), k 1 (by omega), k 2 (by omega), k 3 (by omega)]
  rfl
theorem stD_e (D : gDom) (k : Nat) (v : Int32) : (dTr D, dG D, dSz D, dC D, upd (dSt D) k v, dSh D, dCu D, dLa D, dSw D, dDy D, dDn D, dLt D, dLd D, dSo D) = stD D k v := rfl
/-! a section more -/
theorem adF_at (g : Nat → Int32) (n : Nat) (c t u d : Int32) (q k : Nat) (hk : k < 5) : adF g n c t u d (q * 5 + k) = if q = n then (if k = 0 then c else if k = 1 then t else if k = 2 then u else if k = 3 then d else 0) else g (q * 5 + k) := by
  unfold adF
  by_cases hq : q = n
  · subst hq
    rw [if_pos rfl]
    obtain rfl | rfl | rfl | rfl | rfl : k = 0 ∨ k = 1 ∨ k = 2 ∨ k = 3 ∨ k = 4 := by omega
    · rw [upd_ne _ _ (by omega), upd_ne _ _ (by omega), upd_ne _ _ (by omega), upd_ne _ _ (by omega), upd_at]; rfl
    · rw [upd_ne _ _ (by omega), upd_ne _ _ (by omega), upd_ne _ _ (by omega), upd_at]; rfl
    · rw [upd_ne _ _ (by omega), upd_ne _ _ (by omega), upd_at]; rfl
    · rw [upd_ne _ _ (by omega), upd_at]; rfl
    · rw [upd_at]; rfl
  · rw [if_neg hq, upd_ne _ _ (by omega), upd_ne _ _ (by omega), upd_ne _ _ (by omega), upd_ne _ _ (by omega), upd_ne _ _ (by omega)]
theorem row_ad (g : Nat → Int32) (n : Nat) (c t u d : Int32) (q : Nat) : row (adF g n c t u d) q = if q = n then (c, t, u, d, 0) else row g q := by
  unfold row
  rw [adF_at _ _ _ _ _ _ _ _ (by omega), adF_at _ _ _ _ _ _ _ _ (by omega), adF_at _ _ _ _ _ _ _ _ (by omega), adF_at _ _ _ _ _ _ _ _ (by omega), adF_at _ _ _ _ _ _ _ _ (by omega)]
  split <;> rfl
theorem rows_ad (g : Nat → Int32) (n : Nat) (c t u d : Int32) : rows (adF g n c t u d) (n + 1) = rows g n ++ [(c, t, u, d, 0)] := by
  rw [rows_s, row_ad, if_pos rfl, rows_c (g' := g) fun p hp => by rw [row_ad, if_neg (by omega)]]
theorem hsu_ad {g : Nat → Int32} {m : Nat} {c t u d : Int32} {x : Nat} : hsu (adF g m c t u d) x (m + 1) = hsu g x m := by
  have e : hsu (adF g m c t u d) x m = hsu g x m := hs_c fun p hp => by
    rw [adF_at _ _ _ _ _ _ _ _ (by omega), adF_at _ _ _ _ _ _ _ _ (by omega), if_neg (by omega), if_neg (by omega)]
    exact ⟨rfl, rfl⟩
  show hsu (adF g m c t u d) x m + _ = _
  rw [e, adF_at _ _ _ _ _ _ _ _ (show 4 < 5 by omega), if_pos rfl]
  have : (if (4 : Nat) = 0 then c else if (4 : Nat) = 1 then t else if (4 : Nat) = 2 then u else if (4 : Nat) = 3 then d else 0) = 0 := rfl
  rw [this, i0]
  split <;> omega

/-! THE MOVES section, drop, undo -/
theorem DI.ad {j j' : Nat} {D : gDom} (h : DI j D) (hjj : j ≤ j') {k : Nat} {u d : Int32} (hk : k < 4) (h1 : ¬ u < 1) (h2 : ¬ 500 < u) (h3 : ¬ d < 0) (h4 : ¬ 999 < d) (hn : dSz D < 10) (hc : (dC D).toInt + 1 ≤ 10 * j') (hj' : j' ≤ 600) : DI j' (adR D (nI k) u d) := by
  have u1 := mt ilt.mpr h1
  have u2 := mt ilt.mpr h2
  have d1 := mt ilt.mpr h3
  have d2 := mt ilt.mpr h4
  rw [i1] at u1
  rw [i0] at d1
  rw [show (500 : Int32).toInt = 500 from rfl] at u2
  rw [show (999 : Int32).toInt = 999 from rfl] at d2
  obtain ⟨e1, e2⟩ := iof (x := u) (by omega)
  have hcn := h.cn
  have ec : (dC D + 1).toInt = (dC D).toInt + 1 := by rw [ia (by rw [i1]; omega) (by rw [i1]; omega), i1]
  have hdn := h.dn
  have hm := h.mono hjj
  have a := fun q k (hk : k < 5) => adF_at (dG D) (dSz D) (dC D) (nI k) u d q k hk
  have kk : tnx (nI k) = k := nI_clamp (by omega)
  have at_n : ∀ i, i < 5 → adF (dG D) (dSz D) (dC D) (nI k) u d (dSz D * 5 + i) = (if i = 0 then dC D else if i = 1 then nI k else if i = 2 then u else if i = 3 then d else 0) := fun i hi => by rw [adF_at _ _ _ _ _ _ _ _ hi, if_pos rfl]
  have at_o : ∀ p i, i < 5 → p < dSz D → adF (dG D) (dSz D) (dC D) (nI k) u d (p * 5 + i) = dG D (p * 5 + i) := fun p i hi hp => by rw [adF_at _ _ _ _ _ _ _ _ hi, if_neg (by omega)]
  refine ⟨⟨?_, fun p hp => ?_, h.ok.2.2⟩, h.st, h.tr, fun p hp => ?_, fun p q hpq hq => ?_, fun p hp => ?_, h.sh, hm.cu, h.la, h.sw, h.co, fun t ht => ?_, ?_, ?_, h.ld, h.dy⟩
  · show dSz D + 1 ≤ 10
    omega
  · have hp' : p < dSz D + 1 := hp
    show rowOK (adF _ _ _ _ _ _) p
    unfold rowOK okT
    by_cases e : p = dSz D
    · subst e
      rw [at_n 1 (by omega), at_n 2 (by omega)]
      show (nI k = nI (tnx (nI k)) ∧ tnx (nI k) < 4) ∧ u = nI (tnx u) ∧ tnx u ≤ 500
      rw [kk]
      exact ⟨⟨rfl, hk⟩, e1, by omega⟩
    · rw [at_o p 1 (by omega) (by omega), at_o p 2 (by omega) (by omega)]
      exact h.ok.2.1 p (by omega)
  · have hp' : p < dSz D + 1 := hp
    show rowE (adF _ _ _ _ _ _) p
    unfold rowE
    by_cases e : p = dSz D
    · subst e
      rw [at_n 2 (by omega), at_n 3 (by omega), at_n 4 (by omega)]
      show 0 ≤ d.toInt ∧ d.toInt ≤ 999 ∧ 0 ≤ (0 : Int32).toInt ∧ 0 ≤ u.toInt ∧ (0 : Int32).toInt + u.toInt ≤ 500
      rw [i0]
      omega
    · rw [at_o p 2 (by omega) (by omega), at_o p 3 (by omega) (by omega), at_o p 4 (by omega) (by omega)]
      exact h.rw p (by omega)
  · have hq' : q < dSz D + 1 := hq
    show (adF _ _ _ _ _ _ _).toInt < (adF _ _ _ _ _ _ _).toInt
    rw [at_o p 0 (by omega) (by omega)]
    by_cases e : q = dSz D
    · subst e
      rw [at_n 0 (by omega)]
      exact (h.nb p hpq).2
    · rw [at_o q 0 (by omega) (by omega)]
      exact h.ds p q hpq (by omega)
  · have hp' : p < dSz D + 1 := hp
    show 0 ≤ (adF _ _ _ _ _ _ _).toInt ∧ (adF _ _ _ _ _ _ _).toInt < (dC D + 1).toInt
    rw [ec]
    by_cases e : p = dSz D
    · subst e
      rw [at_n 0 (by omega)]
      show 0 ≤ (dC D).toInt ∧ (dC D).toInt < (dC D).toInt + 1
      omega
    · rw [at_o p 0 (by omega) (by omega)]
      have := h.nb p (by omega)
      omega
  · show hsu (adF _ _ _ _ _ _) t (dSz D + 1) ≤ (dLa D t).toInt
    rw [hsu_ad]
    exact h.hs t ht
  · show 0 ≤ (dC D + 1).toInt ∧ (dC D + 1).toInt ≤ 10 * (j' : Int)
    rw [ec]
    omega
  · show 0 ≤ (dDn D).toInt ∧ (dDn D).toInt + ((dSz D + 1 : Nat) : Int) ≤ (dC D + 1).toInt
    rw [ec]
    omega
theorem ad_r {j j' : Nat} {DC D : gDom} (hr : DRl DC D) {t u d : Int32} (hd : DI j' (adR D t u d)) : DRl (addD DC t u d) (adR D t u d) := by
  obtain ⟨g, rfl, hp, hs⟩ := hr
  have e : (rows (adF g (dSz D) (dC D) t u d) (dSz D + 1)).Perm (rows (adF (dG D) (dSz D) (dC D) t u d) (dSz D + 1)) := by
    rw [rows_ad, rows_ad]
    exact hp.append_right _
  have hne : (rows (adF (dG D) (dSz D) (dC D) t u d) (dSz D + 1)).Pairwise rne := hd.rne
  obtain ⟨a1, a2⟩ := arr_n (keyOf_k (dSt D 2)) (rne_p e hne)
  exact ⟨arrO (keyOf (dSt D 2)) (adF g (dSz D) (dC D) t u d) (dSz D + 1 - 1), rfl, a2.trans e, a1⟩
theorem RelD.ad {j j' : Nat} {DC D : gDom} (h : RelD j DC D) (hjj : j ≤ j') {k : Nat} {u d : Int32} (hk : k < 4) (h1 : ¬ u < 1) (h2 : ¬ 500 < u) (h3 : ¬ d < 0) (h4 : ¬ 999 < d) (hn : dSz D < 10) (hc : (dC D).toInt + 1 ≤ 10 * j') (hj' : j' ≤ 600) : RelD j' (addD DC (nI k) u d) (adR D (nI k) u d) := by
  obtain ⟨hDR, hDI, hz, hy⟩ := h
  have hd := hDI.ad hjj hk h1 h2 h3 h4 hn hc hj'
  refine ⟨ad_r (j := j) hDR hd, hd, fun p hp => ?_, hy⟩
  have hp' : p < dSz D + 1 := hp
  show ¬ adF _ _ _ _ _ _ _ = 0
  rw [adF_at _ _ _ _ _ _ _ _ (by omega)]
  by_cases e : p = dSz D
  · rw [if_pos e]
    show ¬ u = 0
    intro q
    rw [q] at h1
    exact h1 (by decide)
  · rw [if_neg e]
    exact hz p (by omega)
/-! pass, AND WHAT IS ASKED: setting, taken, tray, ifPassed, bestOrder -/
theorem in_lh {lo hi : Nat} (hl : lo ≤ hi) (hh : hi < 2 ^ 31) (x : Int32) : (x < nI lo ∨ nI hi < x) ∨ ∃ d, lo ≤ d ∧ d ≤ hi ∧ x = nI d := by
  by_cases h : x < nI lo
  · exact Or.inl (Or.inl h)
  · have h0 : ¬ x < 0 := by
      intro q
      have q1 := ilt.mp q
      have q2 := mt ilt.mpr h
      rw [i0] at q1
      rw [iN (by omega)] at q2
      omega
    obtain ⟨q, hq, rfl⟩ := nI_of h0
    by_cases h2 : nI hi < nI q
    · exact Or.inl (Or.inr h2)
    · have e1 := mt (nI_ltI hq (by omega)).mpr h
      have e2 := mt (nI_ltI hh hq).mpr h2
      exact Or.inr ⟨q, by omega, by omega, rfl⟩
theorem in_160 (x : Int32) : (x < 1 ∨ 60 < x) ∨ ∃ d, 1 ≤ d ∧ d ≤ 60 ∧ x = nI d := in_lh (by decide) (by decide) x
theorem in_130 (x : Int32) : (x < 1 ∨ 30 < x) ∨ ∃ d, 1 ≤ d ∧ d ≤ 30 ∧ x = nI d := in_lh (by decide) (by decide) x
theorem in_150 (x : Int32) : (x < 1 ∨ 500 < x) ∨ ∃ d, 1 ≤ d ∧ d ≤ 500 ∧ x = nI d := in_lh (by decide) (by decide) x
theorem in_03 (x : Int32) : (x < 0 ∨ 3 < x) ∨ ∃ d, 0 ≤ d ∧ d ≤ 3 ∧ x = nI d := in_lh (by decide) (by decide) x
theorem i_back {c x y : Int32} (h : c + y = x) : x - y = c := by rw [← h, Int32.add_sub_cancel]
theorem DRl.eq {DC D : gDom} (h : DRl DC D) : ∃ g, DC = setG D g := by
  obtain ⟨g, e, -⟩ := h
  exact ⟨g, e⟩
theorem stD_same (D : gDom) (k : Nat) : stD D k (dSt D k) = D := by
  unfold stD
  rw [upd_same]
/-- days tried, in the order as it is -/
theorem try_r {j : Nat} (hj : j < 512) {DC D : gDom} (h : RelD j DC D) (d : Nat) (hd : d ≤ 60) : ∃ g, pdI d (chgD DC 2 (dSt DC 2)) = setG (dyC D d).1 g ∧ (dyC D d).2 + sum4 (dLa D) = sum4 (dLa (dyC D d).1) := by
  obtain ⟨hDR, hDI, hz, hy⟩ := h
  have e2 : dSt DC 2 = dSt D 2 := by
    obtain ⟨g, eg⟩ := hDR.eq
    rw [eg]
    rfl
  have hc := chg_r hDI hDR 2 (dSt D 2)
  rw [stD_same] at hc
  obtain ⟨d1, -, -, -, -, d6⟩ := days_r (by omega) hDI hc hz d (by omega)
  obtain ⟨g, eg⟩ := d1.eq
  rw [e2]
  exact ⟨g, eg, d6⟩
theorem i_sub_lt {x y b : Int32} (hb : 0 ≤ b.toInt) (hx : 0 ≤ x.toInt) (hy : 0 ≤ y.toInt) : (x - b < y - b ↔ x < y) ∧ (x - b = y - b ↔ x = y) := by
  have b2 := b.toInt_lt
  have x2 := x.toInt_lt
  have y2 := y.toInt_lt
  have ex : (x - b).toInt = x.toInt - b.toInt := is (by omega) (by omega)
  have ey : (y - b).toInt = y.toInt - b.toInt := is (by omega) (by omega)
  rw [ilt, ilt, ieq, ieq, ex, ey]
  omega
theorem best_r {j : Nat} (hj : j < 512) {DC D : gDom} (h : RelD j DC D) (d : Nat) (hd : d ≤ 30) : bo2 DC d (dDn (pdI d (chgD DC 2 0))) (dLd (pdI d (chgD DC 2 0))) = bfI D d := by
  obtain ⟨hDR, hDI, hz, hy⟩ := h
  have hdn := hDI.dn
  have hld := hDI.ld
  have s0 : DI j (stD D 2 0) := hDI.set (by omega) (by decide) (by decide) (by decide)
  have s1 : DI j (stD D 2 1) := hDI.set (by omega) (by decide) (by decide) (by decide)
  obtain ⟨p1, p2, -⟩ := days_r (by omega) s0 (chg_r hDI hDR 2 0) hz d (by show (dDy D).toInt + (d : Int) ≤ 10999; omega)
  obtain ⟨q1, q2, -⟩ := days_r (by omega) s1 (chg_r hDI hDR 2 1) hz d (by show (dDy D).toInt + (d : Int) ≤ 10999; omega)
  obtain ⟨g0, e0⟩ := p1.eq
  obtain ⟨g1, e1⟩ := q1.eq
  have hd0 := p2.dn
  have hd1 := q2.dn
  have hl0 := p2.ld
  have hl1 := q2.ld
  unfold bo2 bfI
  rw [e0, e1]
  show (if dDn (dyC (stD D 2 1) d).1 = dDn (dyC (stD D 2 0) d).1 then bI (decide (dLd (dyC (stD D 2 1) d).1 < dLd (dyC (stD D 2 0) d).1)) else bI (decide (dDn (dyC (stD D 2 0) d).1 < dDn (dyC (stD D 2 1) d).1))) = bfC (dDn (dyC (stD D 2 0) d).1 - dDn D) (dLd (dyC (stD D 2 0) d).1 - dLd D) (dDn (dyC (stD D 2 1) d).1 - dDn D) (dLd (dyC (stD D 2 1) d).1 - dLd D)
  obtain ⟨a1, -⟩ := i_sub_lt (b := dDn D) hdn.1 hd0.1 hd1.1
  obtain ⟨-, a2⟩ := i_sub_lt (b := dDn D) hdn.1 hd1.1 hd0.1
  obtain ⟨a3, -⟩ := i_sub_lt (b := dLd D) hld.1 hl1.1 hl0.1
  unfold bfC
  generalize dDn (dyC (stD D 2 0) d).1 = n0 at a1 a2 ⊢
  generalize dDn (dyC (stD D 2 1) d).1 = n1 at a1 a2 ⊢
  generalize dLd (dyC (stD D 2 0) d).1 = l0 at a3 ⊢
  generalize dLd (dyC (stD D 2 1) d).1 = l1 at a3 ⊢
  by_cases hq : n1 = n0
  · have hlt : ¬ n0 - dDn D < n1 - dDn D := fun q => by
      have := a1.mp q
      rw [hq, ilt] at this
      omega
    rw [if_pos hq, if_neg hlt, if_pos (a2.mpr hq)]
    by_cases h3 : l1 < l0
    · rw [decide_eq_true h3, decide_eq_true (a3.mpr h3)]
    · rw [decide_eq_false h3, decide_eq_false (fun q => h3 (a3.mp q))]
  · rw [if_neg hq]
    by_cases hlt : n0 < n1
    · rw [if_pos (a1.mpr hlt), decide_eq_true hlt]
      rfl
    · rw [if_neg (fun q => hlt (a1.mp q)), if_neg (fun q => hq (a2.mp q)), decide_eq_false hlt]
      rfl
/-! WHAT IS ASKED: tray, tone, count, missing, sectionOf. Printed by wip/whole/meths27.py -/
theorem wtc_f (g : Nat → Int32) (x : Int32) : ∀ n, wtc g x n = fsum (fun r => if rTo r = x then rWa r else 0) (rows g n)
  | 0 => rfl
  | n + 1 => by
    rw [rows_s, fsum_app, fsum_one, ← wtc_f g x n]
    show (if g (n * 5 + 1) = x then wtc g x n + g (n * 5 + 2) else wtc g x n) = wtc g x n + (if g (n * 5 + 1) = x then g (n * 5 + 2) else 0)
    split
    · rfl
    · rw [Int32.add_zero]
theorem wtc_r {DC D : gDom} (h : DRl DC D) (x : Int32) : wtc (dG DC) x (dSz DC) = wtc (dG D) x (dSz D) := by
  obtain ⟨g, rfl, hp, -⟩ := h
  show wtc g x (dSz D) = _
  rw [wtc_f, wtc_f]
  exact fsum_perm _ hp
theorem msR_f (D : gDom) (t : Nat) : ∀ n, msR D t n = -(dSh D t) * dSt D 0 - hO (dTr D) t + fsum (fun r => if rTo r = nI t then tkn (dSt D 5) (rWa r) else 0) (rows (dG D) n)
  | 0 => (Int32.add_zero _).symm
  | n + 1 => by
    rw [rows_s, fsum_app, fsum_one, ← Int32.add_assoc, ← msR_f D t n]
    show (if dG D (n * 5 + 1) = nI t then msR D t n + tkn (dSt D 5) (dG D (n * 5 + 2)) else msR D t n) = msR D t n + (if dG D (n * 5 + 1) = nI t then tkn (dSt D 5) (dG D (n * 5 + 2)) else 0)
    split
    · rfl
    · rw [Int32.add_zero]
theorem lkR_f {D : gDom} (h : rsOK D) (t : Nat) : ∀ n, n ≤ dSz D → lkR D t n = -(dSh D t) * dSt D 0 - hO (dTr D) t + fsum (fun r => if rTo r = nI t then tkn (dSt D 5) (rWa r) else 0) (rows (dG D) n)
  | 0, _ => by
    show -(hO (dTr D) t) - dSh D t * dSt D 0 = -(dSh D t) * dSt D 0 - hO (dTr D) t + 0
    rw [Int32.add_zero, Int32.neg_mul, Int32.sub_eq_add_neg, Int32.sub_eq_add_neg, Int32.add_comm]
  | n + 1, hn => by
    obtain ⟨⟨-, hr, h5, h51, h52, -⟩, hw, -⟩ := id h
    obtain ⟨-, hC, hc⟩ := hr n (by omega)
    rw [rows_s, fsum_app, fsum_one, ← Int32.add_assoc, ← lkR_f h t n (by omega)]
    show (if dG D (n * 5 + 1) = nI t then lkR D t n + nI (tkN (tnx (dSt D 5)) (tnx (dG D (n * 5 + 2)))) else lkR D t n) = lkR D t n + (if dG D (n * 5 + 1) = nI t then tkn (dSt D 5) (dG D (n * 5 + 2)) else 0)
    rw [tkn_n h5 h51 h52 hC (hw n (by omega)) hc]
    split
    · rfl
    · rw [Int32.add_zero]
theorem RelD.rs {j : Nat} {DC D : gDom} (h : RelD j DC D) : rsOK D := by
  obtain ⟨-, hDI, hz, -⟩ := h
  have hst := hDI.st
  unfold stE at hst
  refine ⟨hDI.ok, fun p hp => ?_, fun q => ?_⟩
  · obtain ⟨-, hC, -⟩ := hDI.ok.2.1 p hp
    have := hz p hp
    rw [hC] at this
    refine Nat.pos_of_ne_zero fun q => this ?_
    rw [q]
    rfl
  · rw [q, i0] at hst
    omega
theorem ms_r {j : Nat} {DC D : gDom} (h : RelD j DC D) (t : Nat) : msI DC t = lkI D t := by
  have hrs := h.rs
  have hst := h.2.1.st
  unfold stE at hst
  obtain ⟨g, rfl, hp, -⟩ := h.1
  have e : msR (setG D g) t (dSz D) = lkR D t (dSz D) := by
    rw [msR_f, lkR_f hrs t _ (Nat.le_refl _)]
    show -(dSh D t) * dSt D 0 - hO (dTr D) t + fsum _ (rows g (dSz D)) = _
    rw [fsum_perm _ hp]
    rfl
  unfold msI lkI
  show (if msR (setG D g) t (dSz D) < 1 then 0 else if dSt D 0 < 1 then 0 else (msR (setG D g) t (dSz D) + dSt D 0 - 1) / dSt D 0) = _
  rw [e]
  have h0 : ¬ dSt D 0 < 1 := by
    rw [ilt, i1]
    omega
  have hi : lkR D t (dSz D) < 1 ↔ lkR D t (dSz D) ≤ 0 := by
    rw [ilt, ile, i0, i1]
    omega
  by_cases q : lkR D t (dSz D) ≤ 0
  · rw [if_pos q, if_pos (hi.mpr q)]
  · rw [if_neg q, if_neg (fun x => q (hi.mp x)), if_neg h0]
theorem in_06 (x : Int32) : (x < 0 ∨ 6 < x) ∨ ∃ d, 0 ≤ d ∧ d ≤ 6 ∧ x = nI d := in_lh (by decide) (by decide) x
theorem in_09 (x : Int32) : (x < 0 ∨ 9 < x) ∨ ∃ d, 0 ≤ d ∧ d ≤ 9 ∧ x = nI d := in_lh (by decide) (by decide) x
theorem in_05 (x : Int32) : (x < 0 ∨ 5 < x) ∨ ∃ d, 0 ≤ d ∧ d ≤ 5 ∧ x = nI d := in_lh (by decide) (by decide) x
/-! THE MOVE drop: the place on one side, the row on the other -/
theorem plc_s (g : Nat → Int32) (x : Int32) : ∀ n i, i + n < 2 ^ 31 → (plc g x n i = -1 ∧ ∀ p, i ≤ p → p < i + n → ¬ g (p * 5 + 0) = x) ∨ ∃ p, i ≤ p ∧ p < i + n ∧ plc g x n i = nI p ∧ g (p * 5 + 0) = x
  | 0, i, _ => Or.inl ⟨rfl, fun p h1 h2 => absurd h1 (by omega)⟩
  | n + 1, i, hn => by
    unfold plc
    by_cases hc : g (i * 5 + 0) = x
    · rw [if_pos hc]
      exact Or.inr ⟨i, Nat.le_refl i, by omega, rfl, hc⟩
    · rw [if_neg hc]
      rcases plc_s g x n (i + 1) (by omega) with ⟨h1, h2⟩ | ⟨p, h1, h2, h3, h4⟩
      · refine Or.inl ⟨h1, fun p hp1 hp2 => ?_⟩
        by_cases e : p = i
        · subst e; exact hc
        · exact h2 p (by omega) (by omega)
      · exact Or.inr ⟨p, by omega, by omega, h3, h4⟩
theorem plL_s (g : Nat → Int32) (x : Int32) : ∀ n, n < 2 ^ 31 → (plL g x n = -1 ∧ ∀ p, p < n → ¬ g (p * 5 + 0) = x) ∨ ∃ p, p < n ∧ plL g x n = nI p ∧ g (p * 5 + 0) = x
  | 0, _ => Or.inl ⟨rfl, fun p h => absurd h (Nat.not_lt_zero _)⟩
  | n + 1, hn => by
    unfold plL
    by_cases hc : g (n * 5 + 0) = x
    · rw [if_pos hc]
      exact Or.inr ⟨n, by omega, rfl, hc⟩
    · rw [if_neg hc]
      rcases plL_s g x n (by omega) with ⟨h1, h2⟩ | ⟨p, h1, h2, h3⟩
      · refine Or.inl ⟨h1, fun p hp => ?_⟩
        by_cases e : p = n
        · subst e; exact hc
        · exact h2 p (by omega)
      · exact Or.inr ⟨p, by omega, h2, h3⟩
theorem nI_n1 {n : Nat} (h : n < 2 ^ 31) : ¬ nI n = -1 := by
  intro q
  have := ieq.mp q
  rw [iN (by omega), show (-1 : Int32).toInt = -1 from rfl] at this
  omega
/-- a number's place and row -/
theorem place_r {j : Nat} {DC D : gDom} (h : RelD j DC D) (x : Int32) :
    (plc (dG DC) x (dSz DC) 0 = -1 ∧ plL (dG D) x (dSz D) = -1) ∨ ∃ p q, p < dSz D ∧ q < dSz D ∧ plc (dG DC) x (dSz DC) 0 = nI p ∧ plL (dG D) x (dSz D) = nI q ∧ row (dG DC) p = row (dG D) q ∧ dG D (q * 5 + 0) = x := by
  obtain ⟨⟨g, rfl, hp, -⟩, hDI, -, -⟩ := h
  have h10 := hDI.ok.1
  show (plc g x (dSz D) 0 = -1 ∧ _) ∨ ∃ p q, _ ∧ _ ∧ plc g x (dSz D) 0 = nI p ∧ _ ∧ row g p = _ ∧ _
  rcases plc_s g x (dSz D) 0 (by omega) with ⟨h1, h2⟩ | ⟨p, -, h2, h3, h4⟩
  · rcases plL_s (dG D) x (dSz D) (by omega) with ⟨k1, k2⟩ | ⟨q, k1, k2, k3⟩
    · exact Or.inl ⟨h1, k1⟩
    · obtain ⟨p, hpn, e⟩ := rows_of (hp.mem_iff.mpr (rows_mem k1))
      exact absurd ((row_eq.mp e 0 (by omega)).symm.trans k3) (h2 p (Nat.zero_le _) (by omega))
  · obtain ⟨q0, hq0, e⟩ := rows_of (hp.mem_iff.mp (rows_mem (show p < dSz D by omega)))
    have e0 : dG D (q0 * 5 + 0) = x := (row_eq.mp e 0 (by omega)).symm.trans h4
    rcases plL_s (dG D) x (dSz D) (by omega) with ⟨k1, k2⟩ | ⟨q, k1, k2, k3⟩
    · exact absurd e0 (k2 q0 hq0)
    · have hqq : q = q0 := by
        rcases Nat.lt_trichotomy q q0 with l | l | l
        · have := hDI.ds q q0 l hq0
          rw [k3, e0] at this
          omega
        · exact l
        · have := hDI.ds q0 q l k1
          rw [k3, e0] at this
          omega
      subst hqq
      exact Or.inr ⟨p, q, by omega, k1, h3, k2, e, k3⟩
/-- the reference's dome when its row q is dropped -/
def drR (D : gDom) (q t : Nat) : gDom := toD (dTr D, dG D, dSz D, dC D, dSt D, dSh D, dCu D, upd (dLa D) t (dLa D t - dG D (q * 5 + 4)), upd (dSw D) t (dSw D t + dG D (q * 5 + 4)), dDy D, dDn D, dLt D, dLd D, dSo D) q (dSz D - 1)
theorem hsu_0 {g : Nat → Int32} {t : Nat} : ∀ {n : Nat}, (∀ p, p < n → 0 ≤ (g (p * 5 + 4)).toInt) → 0 ≤ hsu g t n
  | 0, _ => Int.le_refl 0
  | n + 1, h => by
    have h1 := hsu_0 (t := t) (n := n) (fun p hp => h p (by omega))
    have h2 := h n (by omega)
    unfold hsu
    split <;> omega
theorem DI.dr {j : Nat} (hj : j ≤ 600) {D : gDom} {q t : Nat} (h : DI j D) (hq : q < dSz D) (ht : t < 4) (hT : dG D (q * 5 + 1) = nI t) : DI j (drR D q t) := by
  have hrow := row_to (g := dG D) hq
  have g := fun p (hp : p < dSz D - 1) => row_eq.mp (hrow p hp)
  have hlt : ∀ p, p < dSz D - 1 → (if q ≤ p then p + 1 else p) < dSz D := fun p hp => by split <;> omega
  have hre := h.rw q hq
  unfold rowE at hre
  have big := h.big.2.2.2.2 t ht
  have hk := fun t => (hsu_to (t := t) hq hrow (dSz D - 1) (Nat.le_refl _)).2 (by omega)
  rw [show dSz D - 1 + 1 = dSz D by omega] at hk
  have hnn : ∀ t, 0 ≤ hsu (toF (dG D) (5 * q) (5 * (dSz D - 1) - 5 * q)) t (dSz D - 1) := fun t => hsu_0 fun p hp => by
    rw [g p hp 4 (by omega)]
    exact (h.rw _ (hlt p hp)).2.2.1
  have hh := h.hs t ht
  have hkt := hk t
  rw [if_pos hT] at hkt
  have hnt := hnn t
  have hsw := h.sw t ht
  have eL : (dLa D t - dG D (q * 5 + 4)).toInt = (dLa D t).toInt - (dG D (q * 5 + 4)).toInt := is (by omega) (by omega)
  have eS : (dSw D t + dG D (q * 5 + 4)).toInt = (dSw D t).toInt + (dG D (q * 5 + 4)).toInt := ia (by omega) (by omega)
  have hdn := h.dn
  refine ⟨rOK_to (D := (dTr D, dG D, dSz D, dC D, dSt D, dSh D, dCu D, upd (dLa D) t (dLa D t - dG D (q * 5 + 4)), upd (dSw D) t (dSw D t + dG D (q * 5 + 4)), dDy D, dDn D, dLt D, dLd D, dSo D)) h.ok hq, h.st, h.tr, fun p hp => ?_, fun p r hpr hr => ?_, fun p hp => ?_, h.sh, h.cu, fun u hu => ?_, fun u hu => ?_, ?_, fun u hu => ?_, h.cn, ?_, h.ld, h.dy⟩
  · have hp' : p < dSz D - 1 := hp
    have := h.rw _ (hlt p hp')
    unfold rowE at this ⊢
    have k := g p hp'
    show 0 ≤ (toF _ _ _ _).toInt ∧ (toF _ _ _ _).toInt ≤ 999 ∧ 0 ≤ (toF _ _ _ _).toInt ∧ 0 ≤ (toF _ _ _ _).toInt ∧ (toF _ _ _ _).toInt + (toF _ _ _ _).toInt ≤ 500
    rw [k 2 (by omega), k 3 (by omega), k 4 (by omega)]
    exact this
  · have hr' : r < dSz D - 1 := hr
    show (toF _ _ _ _).toInt < (toF _ _ _ _).toInt
    rw [g p (by omega) 0 (by omega), g r hr' 0 (by omega)]
    refine h.ds _ _ ?_ (hlt r hr')
    split <;> split <;> omega
  · have hp' : p < dSz D - 1 := hp
    show 0 ≤ (toF _ _ _ _).toInt ∧ (toF _ _ _ _).toInt < _
    rw [g p hp' 0 (by omega)]
    exact h.nb _ (hlt p hp')
  · show 0 ≤ (upd _ _ _ u).toInt
    by_cases e : u = t
    · subst e
      rw [upd_at, eL]
      omega
    · rw [upd_ne _ _ e]
      exact h.la u hu
  · show 0 ≤ (upd _ _ _ u).toInt
    by_cases e : u = t
    · subst e
      rw [upd_at, eS]
      omega
    · rw [upd_ne _ _ e]
      exact h.sw u hu
  · have co := h.co
    show sm (dTr D) 24 + sm (upd _ _ _) 4 + sm (upd _ _ _) 4 = sm (dCu D) 4
    rw [sm_upd ht, sm_upd ht, eL, eS]
    omega
  · have hhu := h.hs u hu
    have hku := hk u
    show hsu (toF (dG D) (5 * q) (5 * (dSz D - 1) - 5 * q)) u (dSz D - 1) ≤ (upd _ _ _ u).toInt
    by_cases e : u = t
    · subst e
      rw [upd_at, eL]
      omega
    · rw [upd_ne _ _ e]
      have : ¬ dG D (q * 5 + 1) = nI u := fun x => e (by
        have := (nI_eq (a := u) (b := t) (by omega) (by omega)).mp (x.symm.trans hT)
        exact this)
      rw [if_neg this] at hku
      omega
  · show 0 ≤ (dDn D).toInt ∧ (dDn D).toInt + ((dSz D - 1 : Nat) : Int) ≤ (dC D).toInt
    omega
theorem er_p {α : Type} : ∀ (l : List α) (p : Nat) (x : α), l[p]? = some x → (x :: l.eraseIdx p).Perm l
  | [], _, _, h => nomatch h
  | y :: l, 0, x, h => by
    have : y = x := Option.some.inj h
    subst this
    exact List.Perm.refl _
  | y :: l, p + 1, x, h => (List.Perm.swap y x _).trans ((er_p l p x h).cons y)
theorem drop_r {j : Nat} (hj : j ≤ 600) {DC D : gDom} (h : RelD j DC D) {p q t : Nat} (hp : p < dSz D) (hq : q < dSz D) (ht : t < 4) (hT : dG D (q * 5 + 1) = nI t) (hrow : row (dG DC) p = row (dG D) q) : RelD j (drpD DC p) (drR D q t) := by
  obtain ⟨⟨g, rfl, hpm, hs⟩, hDI, hz, hy⟩ := h
  have hrow : row g p = row (dG D) q := hrow
  have e1 : g (p * 5 + 1) = dG D (q * 5 + 1) := row_eq.mp hrow 1 (by omega)
  have e4 : g (p * 5 + 4) = dG D (q * 5 + 4) := row_eq.mp hrow 4 (by omega)
  have hd := hDI.dr hj hq ht hT
  have kk : tnx (g (p * 5 + 1)) = t := by rw [e1, hT]; exact nI_clamp (by omega)
  have er : rows (rmO g p (dSz D - 1 - p)) (dSz D - 1) = (rows g (dSz D)).eraseIdx p := rows_er hp (row_rm hp)
  have eR : rows (toF (dG D) (5 * q) (5 * (dSz D - 1) - 5 * q)) (dSz D - 1) = (rows (dG D) (dSz D)).eraseIdx q := rows_er hq (row_to hq)
  have pick : ∀ (g : Nat → Int32) (n p : Nat), p < n → (row g p :: (rows g n).eraseIdx p).Perm (rows g n) := fun g n p hp => er_p _ _ _ (rows_at hp)
  refine ⟨⟨rmO g p (dSz D - 1 - p), ?_, ?_, ?_⟩, hd, fun r hr => ?_, hy⟩
  · unfold drpD
    show (dTr D, rmO g p (dSz D - 1 - p), dSz D - 1, dC D, dSt D, dSh D, dCu D, upd (dLa D) (tnx (g (p * 5 + 1))) (dLa D (tnx (g (p * 5 + 1))) + -(g (p * 5 + 4))), upd (dSw D) (tnx (g (p * 5 + 1))) (dSw D (tnx (g (p * 5 + 1))) + g (p * 5 + 4)), D.2.2.2.2.2.2.2.2.2) = _
    rw [kk, e4, ← Int32.sub_eq_add_neg]
    rfl
  · show (rows _ (dSz D - 1)).Perm (rows (toF (dG D) (5 * q) (5 * (dSz D - 1) - 5 * q)) (dSz D - 1))
    rw [er, eR]
    have := ((pick g (dSz D) p hp).trans hpm).trans (pick (dG D) (dSz D) q hq).symm
    rw [hrow] at this
    exact (List.perm_cons _).mp this
  · show (rows _ (dSz D - 1)).Pairwise (rlt (keyOf (dSt D 2)))
    rw [er]
    exact hs.sublist (List.eraseIdx_sublist _ _)
  · have hr' : r < dSz D - 1 := hr
    show ¬ toF (dG D) (5 * q) (5 * (dSz D - 1) - 5 * q) (r * 5 + 2) = 0
    rw [row_eq.mp (row_to hq r hr') 2 (by omega)]
    exact hz _ (by split <;> omega)
