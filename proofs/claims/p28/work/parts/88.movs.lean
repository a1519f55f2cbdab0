/-! AT THE BEGINNING both stand alike -/
theorem gFi_e : gFi = upd (upd (upd (upd (upd z0 0 50) 1 120) 3 2) 4 30) 5 10 := by
  funext i
  by_cases h : i < 6
  · obtain rfl | rfl | rfl | rfl | rfl | rfl : i = 0 ∨ i = 1 ∨ i = 2 ∨ i = 3 ∨ i = 4 ∨ i = 5 := by omega
    all_goals rfl
  · rw [upd_ne _ _ (by omega), upd_ne _ _ (by omega), upd_ne _ _ (by omega), upd_ne _ _ (by omega), upd_ne _ _ (by omega)]
    unfold gFi
    rw [List.getD_eq_getElem?_getD, List.getElem?_eq_none (by simp; omega)]
    rfl
theorem trI_0 : trI z0 := ⟨fun _ _ => Int.le_refl 0, fun a _ => by
  show (0 : Int32).toInt + (0 : Int32).toInt + (0 : Int32).toInt + (0 : Int32).toInt ≤ 500
  decide⟩
theorem sh0_b (t : Nat) (ht : t < 4) : 0 ≤ (sh0 t).toInt ∧ (sh0 t).toInt ≤ 999 := by
  obtain rfl | rfl | rfl | rfl : t = 0 ∨ t = 1 ∨ t = 2 ∨ t = 3 := by omega
  all_goals decide
theorem DI_0 : DI 0 domM := by
  refine ⟨⟨by decide, fun p hp => absurd hp (Nat.not_lt_zero _), ?_⟩, ?_, trI_0, fun p hp => absurd hp (Nat.not_lt_zero _), fun p q _ hq => absurd hq (Nat.not_lt_zero _), fun p hp => absurd hp (Nat.not_lt_zero _), sh0_b, fun t _ => ⟨Int.le_refl 0, Int.le_refl 0⟩, fun t _ => Int.le_refl 0, fun t _ => Int.le_refl 0, rfl, fun t _ => Int.le_refl 0, ⟨Int.le_refl 0, Int.le_refl 0⟩, ⟨Int.le_refl 0, Int.le_refl 0⟩, ⟨Int.le_refl 0, Int.le_refl 0⟩, Int.le_refl 0⟩
  · show stOK (upd (upd (upd (upd (upd z0 0 50) 1 120) 3 2) 4 30) 5 10)
    rw [← gFi_e]
    unfold stOK
    decide
  · show stE (upd (upd (upd (upd (upd z0 0 50) 1 120) 3 2) 4 30) 5 10)
    rw [← gFi_e]
    unfold stE
    decide
theorem RelD_0 : RelD 0 dom0 domM := by
  refine ⟨⟨z0, ?_, List.Perm.refl _, List.Pairwise.nil⟩, DI_0, fun p hp => absurd hp (Nat.not_lt_zero _), by decide⟩
  show (z0, z0, 0, 0, gFi, sh0, z0, z0, z0, 0, 0, 0, 0, 0) = _
  rw [gFi_e]
  rfl
/-! THE MOVES: what the class answers, and how both stand behind it -/
theorem hO_upd (f : Nat → Int32) {a t : Nat} (ha : a < 6) (ht : t < 4) (x : Int32) : hO (upd f (a * 4 + t) (f (a * 4 + t) + x)) t = hO f t + x := by
  unfold hO
  obtain rfl | rfl | rfl | rfl | rfl | rfl : a = 0 ∨ a = 1 ∨ a = 2 ∨ a = 3 ∨ a = 4 ∨ a = 5 := by omega
  all_goals
    rw [upd_at]
    repeat rw [upd_ne _ _ (by omega)]
    ac_rfl
theorem hO_ne (f : Nat → Int32) {a t u : Nat} (ht : t < 4) (hu : u < 4) (h : u ≠ t) (v : Int32) : hO (upd f (a * 4 + t) v) u = hO f u := by
  unfold hO
  rw [upd_ne _ _ (by omega), upd_ne _ _ (by omega), upd_ne _ _ (by omega), upd_ne _ _ (by omega), upd_ne _ _ (by omega), upd_ne _ _ (by omega)]
theorem hO_set (f : Nat → Int32) {a t : Nat} (ha : a < 6) (ht : t < 4) (v : Int32) : hO (upd f (a * 4 + t) v) t = hO f t + (v - f (a * 4 + t)) := by
  have := hO_upd f ha ht (v - f (a * 4 + t))
  rw [i_chg] at this
  exact this
theorem hO_pour (f : Nat → Int32) {a b t u : Nat} (ha : a < 6) (hb : b < 6) (ht : t < 4) (hu : u < 4) (m : Int32) : hO (pourF f a b t m) u = hO f u := by
  unfold pourF
  by_cases e : u = t
  · subst e
    rw [hO_upd _ hb hu, hO_upd _ ha hu, Int32.add_assoc, Int32.add_left_neg, Int32.add_zero]
  · rw [hO_ne _ ht hu e, hO_ne _ ht hu e]
/-- gold adds up, tone by tone -/
def TJ (D : gDom) : Prop := ∀ t, t < 4 → dCu D t = hO (dTr D) t + dSw D t + dLa D t
theorem TJ.ti {j : Nat} (hj : j ≤ 600) {D : gDom} (h : TJ D) (hD : DI j D) : TI D := by
  intro t ht
  obtain ⟨e, h0, h3⟩ := hO_t hD.tr ht
  have hs := hD.sw t ht
  have hl := hD.la t ht
  have hb := hD.big.2.2.2.2 t ht
  have hT := h t ht
  have e1 : (hO (dTr D) t + dSw D t).toInt = (hO (dTr D) t).toInt + (dSw D t).toInt := ia (by omega) (by omega)
  rw [hT, ia (by omega) (by omega), e1]
  omega
theorem hO_srR (a k : Nat) (r : Int32) (f : Nat → Int32) (ha : a < 6) {u : Nat} (hu : u < 4) : ∀ t, t ≤ 4 → hO (srR a k r f t) u = hO f u
  | 0, _ => rfl
  | t + 1, ht => by
    have ih := hO_srR a k r f ha hu t (by omega)
    show hO (srS a k r (srR a k r f t) t) u = _
    unfold srS
    split
    · exact ih
    · split
      · exact ih
      · split
        · exact ih
        · rw [hO_pour _ ha (etI_n ‹_›).2 (by omega) hu]
          exact ih
theorem hO_r1 (r : Int32) {u : Nat} (hu : u < 4) : ∀ (n i : Nat) (f : Nat → Int32) (so : Int32) (s : Nat), i + n = 6 → hO (r1 r n i f so s).1 u = hO f u
  | 0, _, _, _, _, _ => rfl
  | n + 1, i, f, so, s, hi => by
    unfold r1
    split
    · exact hO_r1 r hu n (i + 1) f so s (by omega)
    · split
      · exact hO_r1 r hu n (i + 1) f so s (by omega)
      · rw [hO_r1 r hu n (i + 1) _ _ _ (by omega)]
        exact hO_srR i _ r f (by omega) hu 4 (Nat.le_refl 4)
theorem hO_tip (a b : Nat) (r : Int32) (f : Nat → Int32) (ha : a < 6) (hb : b < 6) {u : Nat} (hu : u < 4) : ∀ t, t ≤ 4 → hO (tipR a b r f t).1 u = hO f u
  | 0, _ => rfl
  | t + 1, ht => by
    show hO (pourF (tipR a b r f t).1 a b t _) u = _
    rw [hO_pour _ ha hb (by omega) hu]
    exact hO_tip a b r f ha hb hu t (by omega)
theorem ts_sm (f : Nat → Int32) : sm f 24 = ts f 0 + ts f 1 + ts f 2 + ts f 3 := by
  unfold ts
  simp only [sm, Nat.reduceMul, Nat.reduceAdd]
  omega
theorem ts_ne (f : Nat → Int32) {a t u : Nat} (ht : t < 4) (hu : u < 4) (h : u ≠ t) (v : Int32) : ts (upd f (a * 4 + t) v) u = ts f u := by
  unfold ts
  rw [upd_ne _ _ (by omega), upd_ne _ _ (by omega), upd_ne _ _ (by omega), upd_ne _ _ (by omega), upd_ne _ _ (by omega), upd_ne _ _ (by omega)]
theorem ts_lc {t u : Nat} (ht : t < 4) (hu : u < 4) (h : u ≠ t) : ∀ (n i : Nat) (f : Nat → Int32) (l : Int32), ts (lcR t n i f l) u = ts f u
  | 0, _, _, _ => rfl
  | n + 1, i, f, l => (ts_lc ht hu h n (i + 1) _ _).trans (ts_ne f ht hu h _)
theorem hO_lcn {t u : Nat} (ht : t < 4) (hu : u < 4) (h : u ≠ t) : ∀ (n i : Nat) (f : Nat → Int32) (l : Int32), hO (lcR t n i f l) u = hO f u
  | 0, _, _, _ => rfl
  | n + 1, i, f, l => (hO_lcn ht hu h n (i + 1) _ _).trans (hO_ne f ht hu h _)
theorem hO_lc {t : Nat} (ht : t < 4) {f g : Nat → Int32} {l : Int32} (hg : g = lcR t 6 0 f l) (hf : trI f) (hgt : trI g) (hs : sm g 24 = sm f 24 - l.toInt) : hO g t = hO f t - l := by
  obtain ⟨a1, a2, a3⟩ := hO_t hf ht
  obtain ⟨b1, b2, b3⟩ := hO_t hgt ht
  have k : ∀ u, u < 4 → u ≠ t → ts g u = ts f u := fun u hu hut => by rw [hg]; exact ts_lc ht hu hut 6 0 f l
  have e : ts g t = ts f t - l.toInt := by
    rw [ts_sm g, ts_sm f] at hs
    obtain rfl | rfl | rfl | rfl : t = 0 ∨ t = 1 ∨ t = 2 ∨ t = 3 := by omega
    · have := k 1 (by omega) (by omega)
      have := k 2 (by omega) (by omega)
      have := k 3 (by omega) (by omega)
      omega
    · have := k 0 (by omega) (by omega)
      have := k 2 (by omega) (by omega)
      have := k 3 (by omega) (by omega)
      omega
    · have := k 0 (by omega) (by omega)
      have := k 1 (by omega) (by omega)
      have := k 3 (by omega) (by omega)
      omega
    · have := k 0 (by omega) (by omega)
      have := k 1 (by omega) (by omega)
      have := k 2 (by omega) (by omega)
      omega
  refine ieq.mpr ?_
  rw [b1, is (by omega) (by omega), a1]
  exact e
theorem i_ring (a b c n x : Int32) : a - n + (b + x) + (c + (n - x)) = a + b + c := by
  rw [Int32.sub_eq_add_neg, Int32.sub_eq_add_neg]
  have e : a + -n + (b + x) + (c + (n + -x)) = (a + b + c) + ((n + -n) + (x + -x)) := by ac_rfl
  rw [e, Int32.add_right_neg, Int32.add_right_neg, Int32.add_zero, Int32.add_zero]
theorem TJ.ly {j : Nat} {D : gDom} {s : Nat} (h : TJ D) (hD : DI j D) (hs : s < dSz D) (hw : ¬ dG D (s * 5 + 2) ≤ 0) (hR : ¬ rpI (dTr D) (tnx (dG D (s * 5 + 1))) 6 ≤ 0) : TJ (lyD D s) := by
  obtain ⟨-, -, t2, t3⟩ := layX_r (g := dG D) (p := s) hD.ok hs hD.tr rfl hw hR
  obtain ⟨⟨-, ht⟩, -, -⟩ := hD.ok.2.1 s hs
  intro u hu
  have hT := h u hu
  show dCu D u = hO (lcR (tnx (dG D (s * 5 + 1))) 6 0 (dTr D) (lyN D s)) u + upd (dSw D) (tnx (dG D (s * 5 + 1))) (dSw D (tnx (dG D (s * 5 + 1))) + lyB D s) u + upd (dLa D) (tnx (dG D (s * 5 + 1))) (dLa D (tnx (dG D (s * 5 + 1))) + (lyN D s - lyB D s)) u
  by_cases e : u = tnx (dG D (s * 5 + 1))
  · rw [← e] at t2 t3 ⊢
    rw [upd_at, upd_at, hO_lc hu rfl hD.tr t2 t3, hT, i_ring]
  · rw [upd_ne _ _ e, upd_ne _ _ e, hO_lcn ht hu e]
    exact hT
theorem TJ.wk {j : Nat} (hj : j ≤ 600) (q : Nat) : ∀ (s : Nat) (D : gDom) (u : Int32), DI j D → TJ D → q < dSz D → TJ (wkR q s D u).1
  | 0, D, u, _, h, _ => h
  | s + 1, D, u, hD, h, hq => by
    unfold wkR
    by_cases h1 : dG D (q * 5 + 2) ≤ 0
    · rw [if_pos h1]
      exact h
    · rw [if_neg h1]
      by_cases h2 : rpI (dTr D) (tnx (dG D (q * 5 + 1))) 6 ≤ 0
      · rw [if_pos h2]
        exact h
      · rw [if_neg h2]
        exact TJ.wk hj q s (lyD D q) _ (hD.ly hj hq h1 h2) (h.ly hD hq h1 h2) hq
theorem TJ.ww {j : Nat} (hj : j ≤ 600) (od : Nat → Nat) : ∀ (n k : Nat) (D : gDom) (v : Int32) (s : Nat), DI j D → TJ D → (∀ i, i < dSz D → od i < dSz D) → k + n ≤ dSz D → TJ (w2 od n k D v s).1
  | 0, _, _, _, _, _, h, _, _ => h
  | n + 1, k, D, v, s, hD, h, ho, hk => by
    obtain ⟨-, e, -, -⟩ := wkR_ok (s := od k) s D 0 hD.ok (ho k (by omega))
    exact TJ.ww hj od n (k + 1) _ _ _ (wkR_di hj (od k) s D 0 hD (ho k (by omega))) (TJ.wk hj (od k) s D 0 hD h (ho k (by omega))) (by rw [e]; exact ho) (by rw [e]; omega)
theorem TJ.rc {j : Nat} (hj : j ≤ 600) {D : gDom} (h : TJ D) (hD : DI j D) : TJ (rwC D od0).1 := by
  obtain ⟨hB, -⟩ := hD.rwB
  have h1 : TJ (rwB D) := fun t ht => by
    show dCu D t = hO (r1 (dSt D 1) 6 0 (dTr D) (dSo D) (tnx (dSt D 3))).1 t + dSw D t + dLa D t
    rw [hO_r1 _ ht 6 0 _ _ _ rfl]
    exact h t ht
  exact TJ.ww hj (rwO D od0) (dSz D) 0 (rwB D) 0 (rwA D).2.2 hB h1 (fun i hi => loR_lt (dSz D) od0 i hi) (Nat.le_of_eq (Nat.zero_add _))
theorem TJ.cw {j : Nat} (hj : j ≤ 600) {D : gDom} (h : TJ D) (hD : DI j D) : TJ (cwD D) := by
  obtain ⟨g', n', w1, -⟩ := edR_d (dSz (rwC D od0).1) (rwC D od0).1 [] (List.append_nil _).symm (Nat.le_refl _)
  have e : cwD D = dayD (edR (dSz (rwC D od0).1) (rwC D od0).1) := rfl
  rw [e, w1]
  exact h.rc hj hD
/-! other cells for sections that are not there -/
theorem same_row {D : gDom} {g : Nat → Int32} (h : sameR D g) {p : Nat} (hp : p < dSz D) : ∀ k, k < 5 → g (p * 5 + k) = dG D (p * 5 + k) := by
  have e1 := rows_at (g := g) hp
  have e2 := rows_at (g := dG D) hp
  rw [show rows g (dSz D) = rows (dG D) (dSz D) from h] at e1
  exact row_eq.mp (Option.some.inj (e1.symm.trans e2))
theorem DI.same {j : Nat} {D : gDom} {g : Nat → Int32} (h : DI j D) (hg : sameR D g) : DI j (setG D g) := by
  have k := fun p (hp : p < dSz D) => same_row hg hp
  refine ⟨⟨h.ok.1, fun p hp => ?_, h.ok.2.2⟩, h.st, h.tr, fun p hp => ?_, fun p q hpq hq => ?_, fun p hp => ?_, h.sh, h.cu, h.la, h.sw, h.co, fun t ht => ?_, h.cn, h.dn, h.ld, h.dy⟩
  · have hp' : p < dSz D := hp
    have := h.ok.2.1 p hp'
    unfold rowOK at this ⊢
    show okT (g (p * 5 + 1)) ∧ g (p * 5 + 2) = nI (tnx (g (p * 5 + 2))) ∧ tnx (g (p * 5 + 2)) ≤ 500
    rw [k p hp' 1 (by omega), k p hp' 2 (by omega)]
    exact this
  · have hp' : p < dSz D := hp
    have := h.rw p hp'
    unfold rowE at this ⊢
    show 0 ≤ (g (p * 5 + 3)).toInt ∧ (g (p * 5 + 3)).toInt ≤ 999 ∧ 0 ≤ (g (p * 5 + 4)).toInt ∧ 0 ≤ (g (p * 5 + 2)).toInt ∧ (g (p * 5 + 4)).toInt + (g (p * 5 + 2)).toInt ≤ 500
    rw [k p hp' 2 (by omega), k p hp' 3 (by omega), k p hp' 4 (by omega)]
    exact this
  · have hq' : q < dSz D := hq
    show (g (p * 5 + 0)).toInt < (g (q * 5 + 0)).toInt
    rw [k p (by omega) 0 (by omega), k q hq' 0 (by omega)]
    exact h.ds p q hpq hq'
  · have hp' : p < dSz D := hp
    show 0 ≤ (g (p * 5 + 0)).toInt ∧ (g (p * 5 + 0)).toInt < (dC D).toInt
    rw [k p hp' 0 (by omega)]
    exact h.nb p hp'
  · show hsu g t (dSz D) ≤ (dLa D t).toInt
    rw [hs_c (g := g) (g' := dG D) fun p hp => ⟨k p hp 1 (by omega), k p hp 4 (by omega)⟩]
    exact h.hs t ht
theorem DRl.same {DC D : gDom} {g : Nat → Int32} (h : DRl DC D) (hg : sameR D g) : DRl DC (setG D g) := by
  obtain ⟨g', e, hp, hs⟩ := h
  refine ⟨g', e, ?_, hs⟩
  show (rows g' (dSz D)).Perm (rows g (dSz D))
  rw [show rows g (dSz D) = rows (dG D) (dSz D) from hg]
  exact hp
/-! between two events -/
def RQ (j : Nat) (S : gGS) (D : gDom) : Prop := RP j S D ∧ TJ D ∧ (dDy D).toInt ≤ 4 * (j : Int) ∧ ∀ t, t < 4 → (dSh D t).toInt ≤ 5 + 9 * (j : Int)
theorem RQ.mk {j : Nat} {S : gGS} {D DC D' : gDom} (h : RP j S D) (h1 : RelD (j + 1) DC D') (h2 : TJ D') (h3 : (dDy D').toInt ≤ 4 * ((j + 1 : Nat) : Int)) (h4 : ∀ t, t < 4 → (dSh D' t).toInt ≤ 5 + 9 * ((j + 1 : Nat) : Int)) : RQ (j + 1) (setD (saveS S) DC) D' :=
  ⟨⟨h1, svR_lt h.2.1, svN_le h.2.2.1, h.2.2.2⟩, h2, h3, h4⟩
theorem v_store {j : Nat} {S : gGS} {D : gDom} (hj : j ≤ 56) (h : RQ j S D) {t n : Nat} (ht : t < 4) (h1 : 1 ≤ n) (h9 : n ≤ 9) :
    gM K_Gs_store { frames := 5, locals := 125, cells := 0, slots := 0 } [.ref 0, .int (nI t), .int (nI n)] (cGs S) (gD (.inl (some (.int (dSh D t + nI n)))) (cGs (setD (saveS S) (stoD (sD S) t (nI n))))) ∧ RQ (j + 1) (setD (saveS S) (stoD (sD S) t (nI n))) (stoD D t (nI n)) := by
  obtain ⟨hP, hT, hy, hb⟩ := h
  obtain ⟨g, eg⟩ := hP.1.eq
  have e : dSh (sD S) = dSh D := by rw [eg]; rfl
  have ni : (nI n).toInt = (n : Int) := iN (by omega)
  have hs := hP.1.2.1.sh t ht
  have hbt := hb t ht
  have es : (dSh D t + nI n).toInt = (dSh D t).toInt + n := by rw [ia (by rw [ni]; omega) (by rw [ni]; omega), ni]
  have a1 : ¬ nI n < 1 := by rw [ilt, i1, ni]; omega
  have a2 : ¬ 99 < nI n := by rw [ilt, show (99 : Int32).toInt = 99 from rfl, ni]; omega
  have a3 : ¬ 999 < dSh D t + nI n := by rw [ilt, show (999 : Int32).toInt = 999 from rfl, es]; omega
  have hm := m_store S hP.go t (nI n) ht a1 a2 (by rw [e]; exact a3)
  rw [e] at hm
  refine ⟨hm, RQ.mk hP ?_ (fun u hu => hT u hu) (by show (dDy D).toInt ≤ _; omega) (fun u hu => ?_)⟩
  · obtain ⟨⟨g, e, hp, hs⟩, hDI, hz, hy⟩ := hP.1
    refine ⟨⟨g, ?_, hp, hs⟩, (hDI.mono (Nat.le_succ j)).sto ht a1 a2 a3, hz, hy⟩
    rw [e]
    rfl
  · show (upd (dSh D) t (dSh D t + nI n) u).toInt ≤ _
    have := hb u hu
    by_cases c : u = t
    · subst c
      rw [upd_at, es]
      omega
    · rw [upd_ne _ _ c]
      omega
theorem v_cut {j : Nat} {S : gGS} {D : gDom} (hj : j ≤ 56) (h : RQ j S D) {t a : Nat} (ht : t < 4) (ha : a < 6) (h0 : 0 < dSh D t) :
    gM K_Gs_cut { frames := 5, locals := 125, cells := 0, slots := 0 } [.ref 0, .int (nI t), .int (nI a)] (cGs S) (gD (.inl (some (.int (cutI D a)))) (cGs (setD (saveS S) (cutD (sD S) t a)))) ∧ RQ (j + 1) (setD (saveS S) (cutD (sD S) t a)) (cutD D t a) := by
  obtain ⟨hP, hT, hy, hb⟩ := h
  obtain ⟨g, eg⟩ := hP.1.eq
  have e : dSh (sD S) = dSh D := by rw [eg]; rfl
  have ec : cutI (sD S) a = cutI D a := by rw [eg]; rfl
  have h0' := ilt.mp h0
  rw [i0] at h0'
  have hne : ¬ dSh D t = 0 := fun q => by rw [q, i0] at h0'; omega
  have hm := m_cut S hP.go t a ht ha (by rw [e, ilt, i1]; omega)
  rw [ec] at hm
  have hs := hP.1.2.1.sh t ht
  have m1 : (-1 : Int32).toInt = -1 := rfl
  refine ⟨hm, RQ.mk hP ?_ (fun u hu => ?_) (by show (dDy D).toInt ≤ _; omega) (fun u hu => ?_)⟩
  · obtain ⟨⟨g, e, hp, hs⟩, hDI, hz, hy⟩ := hP.1
    refine ⟨⟨g, ?_, hp, hs⟩, hDI.cut (by omega) ht ha hne, hz, hy⟩
    rw [e]
    rfl
  · have hTu := hT u hu
    show upd (dCu D) t (dCu D t + dSt D 0) u = hO (upd (dTr D) (a * 4 + t) (dTr D (a * 4 + t) + cutI D a)) u + upd (dSw D) t (dSw D t + (dSt D 0 - cutI D a)) u + dLa D u
    by_cases c : u = t
    · subst c
      rw [upd_at, upd_at, hO_upd _ ha hu, hTu, Int32.sub_eq_add_neg]
      have e2 : hO (dTr D) u + cutI D a + (dSw D u + (dSt D 0 + -cutI D a)) + dLa D u = hO (dTr D) u + dSw D u + dLa D u + dSt D 0 + (cutI D a + -cutI D a) := by ac_rfl
      rw [e2, Int32.add_right_neg, Int32.add_zero]
    · rw [upd_ne _ _ c, upd_ne _ _ c, hO_ne _ ht hu c]
      exact hTu
  · show (upd (dSh D) t (dSh D t + (-1)) u).toInt ≤ _
    have := hb u hu
    by_cases c : u = t
    · subst c
      rw [upd_at, ia (by rw [m1]; omega) (by rw [m1]; omega), m1]
      omega
    · rw [upd_ne _ _ c]
      omega
theorem v_tip {j : Nat} {S : gGS} {D : gDom} (h : RQ j S D) {a b : Nat} (ha : a < 6) (hb : b < 6) (hab : a ≠ b) :
    gM K_Gs_tip { frames := 5, locals := 125, cells := 0, slots := 0 } [.ref 0, .int (nI a), .int (nI b)] (cGs S) (gD (.inl (some (.int ((tipR a b (dSt D 1) (dTr D) 4).2)))) (cGs (setD (saveS S) (tipD (sD S) a b)))) ∧ RQ (j + 1) (setD (saveS S) (tipD (sD S) a b)) (tipD D a b) := by
  obtain ⟨hP, hT, hy, hbb⟩ := h
  obtain ⟨g, eg⟩ := hP.1.eq
  have hm := m_tip S hP.go a b ha hb hab
  have ec : (tipR a b (dSt (sD S) 1) (dTr (sD S)) 4).2 = (tipR a b (dSt D 1) (dTr D) 4).2 := by rw [eg]; rfl
  rw [ec] at hm
  refine ⟨hm, RQ.mk hP ?_ (fun u hu => ?_) (by show (dDy D).toInt ≤ _; omega) (fun u hu => ?_)⟩
  · obtain ⟨⟨g, e, hp, hs⟩, hDI0, hz, hy⟩ := hP.1
    have hDI := hDI0.mono (Nat.le_succ j)
    have hst := hDI.st
    unfold stE at hst
    obtain ⟨t1, t2⟩ := tip_r hDI.tr ha hb hab (r := dSt D 1) (by omega) (by omega) 4 (Nat.le_refl 4)
    have co := hDI.co
    refine ⟨⟨g, ?_, hp, hs⟩, ⟨hDI.ok, hDI.st, t1, hDI.rw, hDI.ds, hDI.nb, hDI.sh, hDI.cu, hDI.la, hDI.sw, ?_, hDI.hs, hDI.cn, hDI.dn, hDI.ld, hDI.dy⟩, hz, hy⟩
    · rw [e]
      rfl
    · show sm (tipR _ _ _ _ _).1 24 + _ + _ = _
      rw [t2]
      exact co
  · show dCu D u = hO (tipR a b (dSt D 1) (dTr D) 4).1 u + dSw D u + dLa D u
    rw [hO_tip a b _ _ ha hb hu 4 (Nat.le_refl 4)]
    exact hT u hu
  · have := hbb u hu
    show (dSh D u).toInt ≤ _
    omega
/-- a tray swept -/
def swD (D : gDom) (a : Nat) : gDom := ((swR a (dTr D) (dSw D) 4).1, dG D, dSz D, dC D, dSt D, dSh D, dCu D, dLa D, (swR a (dTr D) (dSw D) 4).2, dDy D, dDn D, dLt D, dLd D, dSo D)
theorem hO_sw (a : Nat) (ha : a < 6) (f s : Nat → Int32) {u : Nat} (hu : u < 4) : ∀ t, t ≤ 4 → hO (swR a f s t).1 u + (swR a f s t).2 u = hO f u + s u
  | 0, _ => rfl
  | t + 1, ht => by
    have ih := hO_sw a ha f s hu t (by omega)
    show hO (upd (swR a f s t).1 (a * 4 + t) 0) u + upd (swR a f s t).2 t ((swR a f s t).2 t + (swR a f s t).1 (a * 4 + t)) u = _
    rw [← ih]
    by_cases c : u = t
    · subst c
      rw [upd_at, hO_set _ ha hu, Int32.sub_eq_add_neg, Int32.zero_add]
      have e : hO (swR a f s u).1 u + -(swR a f s u).1 (a * 4 + u) + ((swR a f s u).2 u + (swR a f s u).1 (a * 4 + u)) = hO (swR a f s u).1 u + (swR a f s u).2 u + ((swR a f s u).1 (a * 4 + u) + -(swR a f s u).1 (a * 4 + u)) := by ac_rfl
      rw [e, Int32.add_right_neg, Int32.add_zero]
    · rw [upd_ne _ _ c, hO_ne _ (by omega) hu c]
theorem v_sweep {j : Nat} {S : gGS} {D : gDom} (hj : j ≤ 56) (h : RQ j S D) {a : Nat} (ha : a < 6) :
    gM K_Gs_sweep { frames := 5, locals := 125, cells := 0, slots := 0 } [.ref 0, .int (nI a)] (cGs S) (gD (.inl (some (.int (hA (dTr D) a)))) (cGs (setD (saveS S) (swpD (sD S) a)))) ∧ RQ (j + 1) (setD (saveS S) (swpD (sD S) a)) (swD D a) := by
  obtain ⟨hP, hT, hy, hbb⟩ := h
  have hDI0 := hP.1.2.1
  have big := hDI0.big.2.2.2.2
  have hs : ∀ u, u < 4 → 0 ≤ (dSw D u).toInt ∧ (dSw D u).toInt ≤ 800 * (j : Int) := fun u hu => ⟨hDI0.sw u hu, (big u hu).2⟩
  have hB : 800 * (j : Int) ≤ 1000000000 := by omega
  obtain ⟨s1, s2, s3, s4, -, s6⟩ := sw_r hB hDI0.tr hs ha 4 (Nat.le_refl 4)
  have hm := m_sweep S hP.go a ha
  obtain ⟨g, eg⟩ := hP.1.eq
  have ec : (swpR a (dTr (sD S)) (dSw (sD S)) 4).2.2 = hA (dTr D) a := by
    rw [eg]
    exact sw_v hB hDI0.tr hs ha
  rw [ec] at hm
  refine ⟨hm, RQ.mk hP ?_ (fun u hu => ?_) (by show (dDy D).toInt ≤ _; omega) (fun u hu => ?_)⟩
  · obtain ⟨⟨g, e, hp, hsr⟩, -, hz, hy⟩ := hP.1
    have hDI := hDI0.mono (Nat.le_succ j)
    have co := hDI.co
    refine ⟨⟨g, ?_, hp, hsr⟩, ⟨hDI.ok, hDI.st, s3, hDI.rw, hDI.ds, hDI.nb, hDI.sh, hDI.cu, hDI.la, s4, ?_, hDI.hs, hDI.cn, hDI.dn, hDI.ld, hDI.dy⟩, hz, hy⟩
    · rw [e]
      unfold swpD
      show ((swpR a (dTr D) (dSw D) 4).1, g, dSz D, dC D, dSt D, dSh D, dCu D, dLa D, (swpR a (dTr D) (dSw D) 4).2.1, dDy D, dDn D, dLt D, dLd D, dSo D) = _
      rw [s1, s2]
      rfl
    · show sm (swR _ _ _ _).1 24 + sm (dLa D) 4 + sm (swR _ _ _ _).2 4 = sm (dCu D) 4
      omega
  · show dCu D u = hO (swR a (dTr D) (dSw D) 4).1 u + (swR a (dTr D) (dSw D) 4).2 u + dLa D u
    rw [hO_sw a ha _ _ hu 4 (Nat.le_refl 4)]
    exact hT u hu
  · have := hbb u hu
    show (dSh D u).toInt ≤ _
    omega
theorem v_section {j : Nat} {S : gGS} {D : gDom} (hj : j ≤ 56) (h : RQ j S D) {t : Nat} {u d : Int32} (ht : t < 4) (h1 : ¬ u < 1) (h2 : ¬ 500 < u) (h3 : ¬ d < 0) (h4 : ¬ 999 < d) (hn : dSz D < 10) :
    gM K_Gs_section { frames := 5, locals := 125, cells := 0, slots := 0 } [.ref 0, .int (nI t), .int u, .int d] (cGs S) (gD (.inl (some (.int (dC D)))) (cGs (setD (saveS S) (addD (sD S) (nI t) u d)))) ∧ RQ (j + 1) (setD (saveS S) (addD (sD S) (nI t) u d)) (adR D (nI t) u d) := by
  obtain ⟨hP, hT, hy, hbb⟩ := h
  have hcn := hP.1.2.1.cn
  have hm := m_section S hP.go t u d ht h1 h2 h3 h4 (by rw [hP.1.dm.2.1]; exact hn)
  obtain ⟨g, eg⟩ := hP.1.eq
  have ec : dC (sD S) = dC D := by rw [eg]; rfl
  rw [ec] at hm
  refine ⟨hm, RQ.mk hP (hP.1.ad (Nat.le_succ j) ht h1 h2 h3 h4 hn (by omega) (by omega)) (fun x hx => hT x hx) (by show (dDy D).toInt ≤ _; omega) (fun x hx => ?_)⟩
  have := hbb x hx
  show (dSh D x).toInt ≤ _
  omega
theorem v_drop {j : Nat} {S : gGS} {D : gDom} (hj : j ≤ 56) (h : RQ j S D) {q t : Nat} (hq : q < dSz D) (ht : t < 4) (hT1 : dG D (q * 5 + 1) = nI t) :
    ∃ p, gM K_Gs_drop { frames := 5, locals := 125, cells := 0, slots := 0 } [.ref 0, .int (dG D (q * 5 + 0))] (cGs S) (gD (.inl (some (.int (dG D (q * 5 + 4))))) (cGs (setD (saveS S) (drpD (sD S) p)))) ∧ RQ (j + 1) (setD (saveS S) (drpD (sD S) p)) (drR D q t) := by
  obtain ⟨hP, hT, hy, hbb⟩ := h
  have h10 := hP.1.2.1.ok.1
  rcases place_r hP.1 (dG D (q * 5 + 0)) with ⟨-, h2⟩ | ⟨p, q2, hp, hq2, h1, -, hrow, hx⟩
  · rcases plL_s (dG D) (dG D (q * 5 + 0)) (dSz D) (by omega) with ⟨-, k2⟩ | ⟨q2, k1, k2, -⟩
    · exact absurd rfl (k2 q hq)
    · rw [h2] at k2
      exact absurd k2.symm (nI_ne_m1 (by omega))
  · have hqq : q2 = q := by
      rcases Nat.lt_trichotomy q2 q with l | l | l
      · have := hP.1.2.1.ds q2 q l hq
        rw [hx] at this
        omega
      · exact l
      · have := hP.1.2.1.ds q q2 l hq2
        rw [hx] at this
        omega
    subst hqq
    have hd := drop_r (by omega) (hP.1.mono (Nat.le_succ j)) hp hq2 ht hT1 hrow
    have hm := m_drop S hP.go (dG D (q2 * 5 + 0)) p (by rw [hP.1.dm.2.1]; exact hp) h1
    rw [row_eq.mp hrow 4 (by omega)] at hm
    refine ⟨p, hm, RQ.mk hP hd (fun u hu => ?_) (by show (dDy D).toInt ≤ _; omega) (fun x hx => ?_)⟩
    · have hTu := hT u hu
      show dCu D u = hO (dTr D) u + upd (dSw D) t (dSw D t + dG D (q2 * 5 + 4)) u + upd (dLa D) t (dLa D t - dG D (q2 * 5 + 4)) u
      by_cases c : u = t
      · subst c
        rw [upd_at, upd_at, Int32.sub_eq_add_neg]
        have e : hO (dTr D) u + (dSw D u + dG D (q2 * 5 + 4)) + (dLa D u + -dG D (q2 * 5 + 4)) = hO (dTr D) u + dSw D u + dLa D u + (dG D (q2 * 5 + 4) + -dG D (q2 * 5 + 4)) := by ac_rfl
        rw [e, Int32.add_right_neg, Int32.add_zero]
        exact hTu
      · rw [upd_ne _ _ c, upd_ne _ _ c]
        exact hTu
    · have := hbb x hx
      show (dSh D x).toInt ≤ _
      omega
theorem v_set {j : Nat} {S : gGS} {D : gDom} (h : RQ j S D) {k : Nat} {v : Int32} (hk : k < 6) (h1 : ¬ v < gLo k) (h2 : ¬ gHi k < v) (h3 : ¬ (k = 5 ∧ v = 1)) :
    gM K_Gs_set { frames := 5, locals := 125, cells := 0, slots := 0 } [.ref 0, .int (nI k), .int v] (cGs S) (gD (.inl (some (.int (dSt D k)))) (cGs (setD (saveS S) (chgD (sD S) k v)))) ∧ RQ (j + 1) (setD (saveS S) (chgD (sD S) k v)) (stD D k v) := by
  obtain ⟨hP, hT, hy, hbb⟩ := h
  have hm := m_set S hP.go k v hk h1 h2 h3
  obtain ⟨g, eg⟩ := hP.1.eq
  have ec : dSt (sD S) k = dSt D k := by rw [eg]; rfl
  rw [ec] at hm
  obtain ⟨hDR, hDI, hz, hy2⟩ := hP.1
  refine ⟨hm, RQ.mk hP ⟨chg_r hDI hDR k v, (hDI.mono (Nat.le_succ j)).set hk h1 h2 h3, hz, hy2⟩ (fun x hx => hT x hx) (by show (dDy D).toInt ≤ _; omega) (fun x hx => ?_)⟩
  have := hbb x hx
  show (dSh D x).toInt ≤ _
  omega
/-- d days of the law, one after the other: the class has passed as many -/
def RY (j d : Nat) (S : gGS) (D0 D : gDom) (u : Int32) : Prop := DRl (pdI d (sD S)) D ∧ DI j D ∧ TJ D ∧ (∀ p, p < dSz D → ¬ dG D (p * 5 + 2) = 0) ∧ (dDy D).toInt = (dDy D0).toInt + d ∧ u + sum4 (dLa D0) = sum4 (dLa D) ∧ dSh D = dSh D0
theorem RY.zero {j : Nat} {S : gGS} {D : gDom} (h : RQ j S D) : RY j 0 S D D 0 := ⟨h.1.1.1, h.1.1.2.1, h.2.1, h.1.1.2.2.1, (Int.add_zero _).symm, Int32.zero_add _, rfl⟩
theorem edR_sh : ∀ (n : Nat) (D : gDom), dSh (edR n D) = dSh D
  | 0, _ => rfl
  | n + 1, D => by
    show dSh (edR n (edS D n)) = _
    rw [edR_sh n]
    unfold edS
    split
    · show dSh (cdD D _) = _
      unfold cdD
      split <;> rfl
    · rfl
theorem wkR_sh (q : Nat) : ∀ (s : Nat) (D : gDom) (u : Int32), dSh (wkR q s D u).1 = dSh D
  | 0, _, _ => rfl
  | s + 1, D, u => by
    unfold wkR
    split
    · rfl
    · split
      · rfl
      · exact wkR_sh q s (lyD D q) _
theorem w2_sh (od : Nat → Nat) : ∀ (n k : Nat) (D : gDom) (v : Int32) (s : Nat), dSh (w2 od n k D v s).1 = dSh D
  | 0, _, _, _, _ => rfl
  | n + 1, k, D, v, s => (w2_sh od n (k + 1) _ _ _).trans (wkR_sh (od k) s D 0)
theorem cw_sh (D : gDom) : dSh (cwD D) = dSh D := (edR_sh _ _).trans (w2_sh (rwO D od0) (dSz D) 0 (rwB D) 0 (rwA D).2.2)
theorem RY.step {j d : Nat} {S : gGS} {D0 D : gDom} {u : Int32} (hj : j ≤ 600) (hy0 : (dDy D).toInt ≤ 9000) (h : RY j d S D0 D u) {g : Nat → Int32} (hg : sameR (cwD D) g) : RY j (d + 1) S D0 (setG (cwD D) g) (u + cwL D) := by
  obtain ⟨h1, h2, h3, h4, h5, h6, h7⟩ := h
  obtain ⟨b1, b2, b3, b4, b5, b6⟩ := day_r hj h2 (by omega) h1
  refine ⟨b1.same hg, b2.same hg, fun t ht => h3.cw hj h2 t ht, fun p hp => ?_, ?_, ?_, (cw_sh D).trans h7⟩
  · have hp' : p < dSz (cwD D) := hp
    show ¬ g (p * 5 + 2) = 0
    rw [same_row hg hp' 2 (by omega)]
    exact b3 p hp'
  · show (dDy (cwD D)).toInt = _
    rw [b4, h5]
    omega
  · show u + cwL D + sum4 (dLa D0) = sum4 (dLa (cwD D))
    rw [← b6, ← h6]
    ac_rfl
theorem v_pass {j d : Nat} {S : gGS} {D D' : gDom} {u : Int32} (hj : j ≤ 56) (h : RQ j S D) (hd1 : 1 ≤ d) (hd4 : d ≤ 4) (hY : RY j d S D D' u) :
    gM K_Gs_pass { frames := 5, locals := 125, cells := 0, slots := 0 } [.ref 0, .int (nI d)] (cGs S) (gD (.inl (some (.int u))) (cGs (setD (saveS S) (pdI d (sD S))))) ∧ RQ (j + 1) (setD (saveS S) (pdI d (sD S))) D' := by
  obtain ⟨hP, hT, hy, hbb⟩ := h
  obtain ⟨h1, h2, h3, h4, h5, h6, h7⟩ := hY
  obtain ⟨g, eg⟩ := hP.1.eq
  have e : dDy (sD S) = dDy D := by rw [eg]; rfl
  have hdy := hP.1.2.1.dy
  have ni : (nI d).toInt = (d : Int) := iN (by omega)
  have hdd : (dDy D + nI d).toInt = (dDy D).toInt + d := by rw [ia (by rw [ni]; omega) (by rw [ni]; omega), ni]
  have h9 : ¬ 9999 < dDy D + nI d := by rw [ilt, hdd, show (9999 : Int32).toInt = 9999 from rfl]; omega
  have hm := m_pass S hP.go d hd1 (by omega) (by rw [e]; exact h9)
  have ec : sum4 (dLa (pdI d (sD S))) - sum4 (dLa (sD S)) = u := by
    obtain ⟨g2, eg2⟩ := h1.eq
    have e1 : dLa (pdI d (sD S)) = dLa D' := by rw [eg2]; rfl
    have e2 : dLa (sD S) = dLa D := by rw [eg]; rfl
    rw [e1, e2]
    exact i_back h6
  rw [ec] at hm
  refine ⟨hm, RQ.mk hP ⟨h1, h2.mono (Nat.le_succ j), h4, by omega⟩ h3 (by omega) (fun x hx => ?_)⟩
  have := hbb x hx
  rw [h7]
  omega
theorem RQ_0 : RQ 0 gs0 domM := by
  refine ⟨⟨RelD_0, by decide, by decide, ⟨by decide, by decide, by decide⟩⟩, fun t ht => rfl, by decide, fun t ht => ?_⟩
  obtain rfl | rfl | rfl | rfl : t = 0 ∨ t = 1 ∨ t = 2 ∨ t = 3 := by omega
  all_goals decide
