/-! THE PURE HALF, taken over from whole by wip/p28/port2.py -/
/-! A DAY on both sides -/
theorem DI.ed {j : Nat} (hj : j ≤ 600) {D : gDom} {s : Nat} (h : DI j D) (hs : s < dSz D) (hy : (dDy D).toInt ≤ 10999) : DI j (edS D s) ∧ dDy (edS D s) = dDy D ∧ dLa (edS D s) = dLa D := by
  have hok := (edS_ok h.ok hs).1
  by_cases hc : dG D (s * 5 + 2) = 0
  · have he : edS D s = fin D (toF (dG D) (5 * s) (5 * (dSz D - 1) - 5 * s)) (dSz D - 1) (f1 (row (dG D) s)) (f2 (dDy D) (row (dG D) s)) (f3 (dDy D) (row (dG D) s)) := by
      unfold edS
      rw [if_pos hc, cdD_f D (dG D (s * 5 + 3)) (r := row (dG D) s) hc rfl]
      rfl
    rw [he] at hok ⊢
    have hrow := row_to (g := dG D) hs
    have hre := h.rw s hs
    unfold rowE at hre
    have hdy := h.dy
    have hdn := h.dn
    have hld := h.ld
    have hcn := h.cn
    have e1 : f1 (row (dG D) s) = 1 := if_pos hc
    have e3 : 0 ≤ (f3 (dDy D) (row (dG D) s)).toInt ∧ (f3 (dDy D) (row (dG D) s)).toInt ≤ 10999 := by
      have es : (dDy D - rDu (row (dG D) s)).toInt = (dDy D).toInt - (dG D (s * 5 + 3)).toInt := is (by show -2147483648 ≤ (dDy D).toInt - (dG D (s * 5 + 3)).toInt; omega) (by show (dDy D).toInt - (dG D (s * 5 + 3)).toInt ≤ 2147483647; omega)
      unfold f3
      rw [if_pos (show rWa (row (dG D) s) = 0 from hc)]
      split
      · rw [i0]; omega
      · have := mt ile.mpr ‹_›
        rw [es, i0] at this
        rw [es]
        omega
    have g := fun p (hp : p < dSz D - 1) => row_eq.mp (hrow p hp)
    have hlt : ∀ p, p < dSz D - 1 → (if s ≤ p then p + 1 else p) < dSz D := fun p hp => by split <;> omega
    refine ⟨⟨hok, h.st, h.tr, fun p hp => ?_, fun p q hpq hq => ?_, fun p hp => ?_, h.sh, h.cu, h.la, h.sw, h.co, fun t ht => ?_, hcn, ?_, ?_, hdy⟩, rfl, rfl⟩
    · have hp' : p < dSz D - 1 := hp
      have := h.rw _ (hlt p hp')
      unfold rowE at this ⊢
      have k := g p hp'
      show 0 ≤ (toF _ _ _ _).toInt ∧ (toF _ _ _ _).toInt ≤ 999 ∧ 0 ≤ (toF _ _ _ _).toInt ∧ 0 ≤ (toF _ _ _ _).toInt ∧ (toF _ _ _ _).toInt + (toF _ _ _ _).toInt ≤ 500
      rw [k 2 (by omega), k 3 (by omega), k 4 (by omega)]
      exact this
    · have hq' : q < dSz D - 1 := hq
      show (toF _ _ _ _).toInt < (toF _ _ _ _).toInt
      rw [g p (by omega) 0 (by omega), g q hq' 0 (by omega)]
      refine h.ds _ _ ?_ (hlt q hq')
      split <;> split <;> omega
    · have hp' : p < dSz D - 1 := hp
      show 0 ≤ (toF _ _ _ _).toInt ∧ (toF _ _ _ _).toInt < _
      rw [g p hp' 0 (by omega)]
      exact h.nb _ (hlt p hp')
    · have hh := h.hs t ht
      have k := (hsu_to (t := t) hs hrow (dSz D - 1) (Nat.le_refl _)).2 (by omega)
      rw [show dSz D - 1 + 1 = dSz D by omega] at k
      show hsu (toF _ _ _) t (dSz D - 1) ≤ (dLa D t).toInt
      have : (0 : Int) ≤ (if dG D (s * 5 + 1) = nI t then (dG D (s * 5 + 4)).toInt else 0) := by split <;> omega
      omega
    · show 0 ≤ (dDn D + f1 _).toInt ∧ (dDn D + f1 _).toInt + ((dSz D - 1 : Nat) : Int) ≤ (dC D).toInt
      have one : (1 : Int32).toInt = 1 := rfl
      rw [e1, ia (by rw [one]; omega) (by rw [one]; omega), one]
      omega
    · show 0 ≤ (dLd D + f3 _ _).toInt ∧ (dLd D + f3 _ _).toInt ≤ 11000 * (dDn D + f1 _).toInt
      have one : (1 : Int32).toInt = 1 := rfl
      rw [e1, ia (x := dDn D) (by rw [one]; omega) (by rw [one]; omega), one, ia (by omega) (by omega)]
      omega
  · have he : edS D s = D := by
      unfold edS
      rw [if_neg hc]
    rw [he]
    exact ⟨h, rfl, rfl⟩
theorem DI.edR {j : Nat} (hj : j ≤ 600) : ∀ (m : Nat) (D : gDom), DI j D → m ≤ dSz D → (dDy D).toInt ≤ 10999 → DI j (edR m D) ∧ dDy (edR m D) = dDy D ∧ dLa (edR m D) = dLa D
  | 0, D, h, _, _ => ⟨h, rfl, rfl⟩
  | p + 1, D, h, hm, hy => by
    obtain ⟨h1, h2, h3⟩ := h.ed hj (show p < dSz D by omega) hy
    obtain ⟨i1, i2, i3⟩ := DI.edR hj p (edS D p) h1 (edS_ok h.ok (show p < dSz D by omega)).2.1 (by rw [h2]; exact hy)
    exact ⟨i1, i2.trans h2, i3.trans h3⟩
/-- the class's dome is the reference's, its rows arranged -/
def DRl (DC D : gDom) : Prop := ∃ g, DC = setG D g ∧ (rows g (dSz D)).Perm (rows (dG D) (dSz D)) ∧ (rows g (dSz D)).Pairwise (rlt (keyOf (dSt D 2)))
theorem DI.rne {j : Nat} {D : gDom} (h : DI j D) : (rows (dG D) (dSz D)).Pairwise rne := by
  unfold rows
  refine List.pairwise_map.mpr (List.Pairwise.imp_of_mem (fun {a b} ha hb hab => ?_) List.pairwise_lt_range)
  have := h.ds a b hab (List.mem_range.mp hb)
  intro q
  have q' : dG D (a * 5 + 0) = dG D (b * 5 + 0) := q
  rw [q'] at this
  omega
theorem rne_p {a b : List Rw} (h : a.Perm b) (hb : b.Pairwise rne) : a.Pairwise rne := (h.pairwise_iff (fun h => Ne.symm h)).mpr hb
theorem DRl.er {j : Nat} {DC D : gDom} (h : DI j D) (hr : DRl DC D) : ER (dSz D) (ord D) DC D ∧ (ol (ord D) (dSz D)).Perm (List.range (dSz D)) := by
  obtain ⟨g, rfl, hp, hs⟩ := hr
  obtain ⟨a1, a2⟩ := ord_row (keyOf_k (dSt D 2)) (od := od0) hp hs h.rne
  exact ⟨⟨rfl, g, rfl, a1⟩, a2⟩
theorem er_perm {n : Nat} {o : Nat → Nat} {g G : Nat → Int32} (ho : (ol o n).Perm (List.range n)) (h : ∀ p, p < n → row g p = row G (o p)) : (rows g n).Perm (rows G n) := by
  have e : rows g n = (ol o n).map (row G) := by
    unfold rows ol
    rw [List.map_map]
    exact List.map_congr_left fun p hp => h p (List.mem_range.mp hp)
  rw [e]
  exact ho.map (row G)
theorem DI.rwB {j : Nat} {D : gDom} (h : DI j D) : DI j (rwB D) ∧ pdA D = rwA D := by
  have hst := h.st
  unfold stE at hst
  obtain ⟨h1, h2, h3⟩ := sorts_r (r := dSt D 1) (by omega) (by omega) 6 0 (dTr D) (dSo D) (tnx (dSt D 3)) rfl h.tr
  refine ⟨⟨rOK_B h.ok, h.st, h2, h.rw, h.ds, h.nb, h.sh, h.cu, h.la, h.sw, ?_, h.hs, h.cn, h.dn, h.ld, h.dy⟩, h1⟩
  have co := h.co
  show sm (r1 _ _ _ _ _ _).1 24 + _ + _ = _
  rw [h3]
  exact co
theorem cwC_r {j : Nat} (hj : j ≤ 600) {DC D : gDom} (h : DI j D) (hr : DRl DC D) : ER (dSz D) (ord D) (pdB DC).1 (rwC D od0).1 ∧ DI j (rwC D od0).1 ∧ cwL D + sum4 (dLa D) = sum4 (dLa (rwC D od0).1) ∧ dDy (rwC D od0).1 = dDy D ∧ dSt (rwC D od0).1 = dSt D ∧ (ol (ord D) (dSz D)).Perm (List.range (dSz D)) := by
  obtain ⟨he, ho⟩ := hr.er h
  obtain ⟨g, rfl, -, -⟩ := hr
  obtain ⟨b1, b2⟩ := h.rwB
  have e1 : pdA (setG D g) = rwA D := b2
  have he2 : ER (dSz D) (ord D) (setTS (setG D g) (rwA D).1 (rwA D).2.1) (rwB D) := by
    obtain ⟨-, g', hg', hg⟩ := he
    refine ⟨rfl, g, rfl, fun p hp => ?_⟩
    have : g = g' := congrArg (fun D => dG D) hg'
    rw [this]
    exact hg p hp
  obtain ⟨i1, i2, i3, i4, i5⟩ := p2_r hj (ol_ok ho) (dSz D) 0 (setTS (setG D g) (rwA D).1 (rwA D).2.1) (rwB D) 0 (rwA D).2.2 (by omega) b1 he2
  have e2 : pdB (setG D g) = p2 (dSz D) 0 (setTS (setG D g) (rwA D).1 (rwA D).2.1) (rwA D).2.2 := by
    unfold pdB
    rw [e1]
    rfl
  rw [e2]
  rw [Int32.zero_add] at i3
  exact ⟨i1, i2, i3, i4, i5, ho⟩
theorem day_r {j : Nat} (hj : j ≤ 600) {DC D : gDom} (h : DI j D) (hy : (dDy D).toInt ≤ 10998) (hr : DRl DC D) :
    DRl (pdD DC) (cwD D) ∧ DI j (cwD D) ∧ (∀ p, p < dSz (cwD D) → ¬ dG (cwD D) (p * 5 + 2) = 0) ∧ (dDy (cwD D)).toInt = (dDy D).toInt + 1 ∧ dSt (cwD D) = dSt D ∧ cwL D + sum4 (dLa D) = sum4 (dLa (cwD D)) := by
  obtain ⟨⟨en, g1, e1, eg⟩, c2, c3, c4, c5, ho⟩ := cwC_r hj h hr
  obtain ⟨r1, r2, r3⟩ := DI.edR hj (dSz (rwC D od0).1) (rwC D od0).1 c2 (Nat.le_refl _) (by rw [c4]; omega)
  have hst2 := (edR_ok (dSz (rwC D od0).1) (rwC D od0).1 c2.ok (Nat.le_refl _)).2
  obtain ⟨G', N', w1, w2⟩ := edR_d (dSz (rwC D od0).1) (rwC D od0).1 [] (List.append_nil _).symm (Nat.le_refl _)
  obtain ⟨g', n', v1, v2⟩ := dsR_d (dSz (rwC D od0).1) (pdB DC).1 [] (by rw [e1]; exact (List.append_nil _).symm) (by rw [e1]; exact Nat.le_refl _)
  rw [List.append_nil] at w2 v2
  have hpm : (rows g1 (dSz (rwC D od0).1)).Perm (rows (dG (rwC D od0).1) (dSz (rwC D od0).1)) := by
    rw [en]
    exact er_perm ho eg
  have edg : dG (pdB DC).1 = g1 := by rw [e1]; rfl
  have edy : dDy (pdB DC).1 = dDy (rwC D od0).1 := by rw [e1]; rfl
  rw [edg] at v1 v2
  rw [edy] at v1
  have hf : (rows g' n').Perm (rows G' N') := by
    rw [w2, v2]
    exact hpm.filter keep
  have hn : n' = N' := by
    have := hf.length_eq
    rwa [rows_len, rows_len] at this
  subst hn
  rw [fsum_perm f1 hpm, fsum_perm (f2 _) hpm, fsum_perm (f3 _) hpm] at v1
  have hd : (rows g' n').Pairwise rne := by
    rw [v2]
    exact (rne_p hpm c2.rne).filter keep
  have ekey : dSt (cwD D) = dSt D := hst2.trans c5
  obtain ⟨a1, a2⟩ := arr_n (keyOf_k (dSt D 2)) hd
  have esz : dSz (pdB DC).1 = dSz (rwC D od0).1 := by rw [e1]; rfl
  have ecw : cwD D = dayD (edR (dSz (rwC D od0).1) (rwC D od0).1) := rfl
  refine ⟨⟨arrO (keyOf (dSt D 2)) g' (n' - 1), ?_, ?_, ?_⟩, ?_, fun p hp => ?_, ?_, ekey, ?_⟩
  · show arD (dsR (dSz (pdB DC).1) (pdB DC).1) = _
    rw [esz, v1, ecw, w1, e1]
    have k : keyOf (dSt (fin (setG (rwC D od0).1 g1) g' n' (fsum f1 (rows (dG (rwC D od0).1) (dSz (rwC D od0).1))) (fsum (f2 (dDy (rwC D od0).1)) (rows (dG (rwC D od0).1) (dSz (rwC D od0).1))) (fsum (f3 (dDy (rwC D od0).1)) (rows (dG (rwC D od0).1) (dSz (rwC D od0).1)))) 2) = keyOf (dSt D 2) := by
      show keyOf (dSt (rwC D od0).1 2) = _
      rw [c5]
    unfold arD
    rw [k]
    rfl
  · rw [ecw, w1]
    exact a2.trans hf
  · rw [ekey, ecw, w1]
    exact a1
  · rw [ecw]
    have one : (1 : Int32).toInt = 1 := rfl
    have hdy := h.dy
    refine ⟨r1.ok, r1.st, r1.tr, r1.rw, r1.ds, r1.nb, r1.sh, r1.cu, r1.la, r1.sw, r1.co, r1.hs, r1.cn, r1.dn, r1.ld, ?_⟩
    show 0 ≤ (dDy (edR (dSz (rwC D od0).1) (rwC D od0).1) + 1).toInt
    rw [r2, c4, ia (by rw [one]; omega) (by rw [one]; omega), one]
    omega
  · rw [ecw, w1] at hp ⊢
    have hm : row G' p ∈ rows G' n' := rows_mem hp
    rw [w2] at hm
    have := (List.mem_filter.mp hm).2
    unfold keep at this
    exact of_decide_eq_true this
  · rw [ecw]
    show (dDy (edR (dSz (rwC D od0).1) (rwC D od0).1) + 1).toInt = _
    have one : (1 : Int32).toInt = 1 := rfl
    have hdy := h.dy
    rw [r2, c4, ia (by rw [one]; omega) (by rw [one]; omega), one]
  · rw [c3, ecw]
    show _ = sum4 (dLa (edR (dSz (rwC D od0).1) (rwC D od0).1))
    rw [r3]

/-! WHAT HOLDS BETWEEN THE CALLS: the class and the reference stand alike -/
theorem days_r {j : Nat} (hj : j ≤ 600) {DC D : gDom} (h : DI j D) (hr : DRl DC D) (hz : ∀ p, p < dSz D → ¬ dG D (p * 5 + 2) = 0) : ∀ n : Nat, (dDy D).toInt + (n : Int) ≤ 10999 →
    DRl (pdI n DC) (dyC D n).1 ∧ DI j (dyC D n).1 ∧ (∀ p, p < dSz (dyC D n).1 → ¬ dG (dyC D n).1 (p * 5 + 2) = 0) ∧ (dDy (dyC D n).1).toInt = (dDy D).toInt + n ∧ dSt (dyC D n).1 = dSt D ∧ (dyC D n).2 + sum4 (dLa D) = sum4 (dLa (dyC D n).1)
  | 0, _ => ⟨hr, h, hz, (Int.add_zero _).symm, rfl, Int32.zero_add _⟩
  | n + 1, hn => by
    obtain ⟨a1, a2, a3, a4, a5, a6⟩ := days_r hj h hr hz n (by omega)
    obtain ⟨b1, b2, b3, b4, b5, b6⟩ := day_r hj a2 (by omega) a1
    refine ⟨b1, b2, b3, ?_, b5.trans a5, ?_⟩
    · show (dDy (cwD (dyC D n).1)).toInt = _
      rw [b4, a4]
      omega
    · show (dyC D n).2 + cwL (dyC D n).1 + sum4 (dLa D) = sum4 (dLa (cwD (dyC D n).1))
      rw [← b6, ← a6]
      ac_rfl
def stD (D : gDom) (k : Nat) (v : Int32) : gDom := (dTr D, dG D, dSz D, dC D, upd (dSt D) k v, D.2.2.2.2.2)
theorem i_chg (a v : Int32) : a + (v - a) = v := by rw [Int32.sub_eq_add_neg, Int32.add_comm v, ← Int32.add_assoc, Int32.add_right_neg, Int32.zero_add]
theorem chg_r {j : Nat} {DC D : gDom} (h : DI j D) (hr : DRl DC D) (k : Nat) (v : Int32) : DRl (chgD DC k v) (stD D k v) := by
  obtain ⟨g, rfl, hp, hs⟩ := hr
  have hd := rne_p hp h.rne
  obtain ⟨a1, a2⟩ := arr_n (keyOf_k (upd (dSt D) k v 2)) hd
  refine ⟨arrO (keyOf (upd (dSt D) k v 2)) g (dSz D - 1), ?_, a2.trans hp, a1⟩
  unfold chgD
  show (dTr D, arrO (keyOf (upd (dSt D) k (dSt D k + (v - dSt D k)) 2)) g (dSz D - 1), dSz D, dC D, upd (dSt D) k (dSt D k + (v - dSt D k)), D.2.2.2.2.2) = _
  rw [i_chg]
  rfl
theorem gLo_v (k : Nat) (hk : k < 6) : (gLo k).toInt = (([1, 10, 0, 0, 1, 0] : List Int).getD k 0) ∧ (gHi k).toInt = (([200, 500, 1, 9, 99, 99] : List Int).getD k 0) := by
  obtain rfl | rfl | rfl | rfl | rfl | rfl : k = 0 ∨ k = 1 ∨ k = 2 ∨ k = 3 ∨ k = 4 ∨ k = 5 := by omega
  all_goals exact ⟨rfl, rfl⟩
theorem DI.set {j : Nat} {D : gDom} (h : DI j D) {k : Nat} {v : Int32} (hk : k < 6) (h1 : ¬ v < gLo k) (h2 : ¬ gHi k < v) (h3 : ¬ (k = 5 ∧ v = 1)) : DI j (stD D k v) := by
  obtain ⟨h10, hr, h5, h51, h52, h4, h41, h42, h3', h31⟩ := h.ok
  have hst := h.st
  unfold stE at hst
  have v1 := mt ilt.mpr h1
  have v2 := mt ilt.mpr h2
  obtain ⟨l1, l2⟩ := gLo_v k hk
  rw [l1] at v1
  rw [l2] at v2
  have hv0 : 0 ≤ v.toInt := by
    obtain rfl | rfl | rfl | rfl | rfl | rfl : k = 0 ∨ k = 1 ∨ k = 2 ∨ k = 3 ∨ k = 4 ∨ k = 5 := by omega
    all_goals (simp at v1; omega)
  obtain ⟨e1, e2⟩ := iof hv0
  refine ⟨⟨h10, hr, ?_⟩, ?_, h.tr, h.rw, h.ds, h.nb, h.sh, h.cu, h.la, h.sw, h.co, h.hs, h.cn, h.dn, h.ld, h.dy⟩
  · show stOK (upd (dSt D) k v)
    unfold stOK
    obtain rfl | rfl | rfl | rfl | rfl | rfl : k = 0 ∨ k = 1 ∨ k = 2 ∨ k = 3 ∨ k = 4 ∨ k = 5 := by omega
    · exact ⟨h5, h51, h52, h4, h41, h42, h3', h31⟩
    · exact ⟨h5, h51, h52, h4, h41, h42, h3', h31⟩
    · exact ⟨h5, h51, h52, h4, h41, h42, h3', h31⟩
    · rw [upd_ne _ _ (by omega), upd_ne _ _ (by omega), upd_at]
      simp at v2
      exact ⟨h5, h51, h52, h4, h41, h42, e1, by omega⟩
    · rw [upd_ne _ _ (by omega), upd_at, upd_ne _ _ (by omega)]
      simp at v1 v2
      exact ⟨h5, h51, h52, e1, by omega, by omega, h3', h31⟩
    · rw [upd_at, upd_ne _ _ (by omega), upd_ne _ _ (by omega)]
      simp at v2
      have : ¬ tnx v = 1 := fun q => h3 ⟨rfl, by rw [e1, q]; rfl⟩
      exact ⟨e1, by omega, by omega, h4, h41, h42, h3', h31⟩
  · show stE (upd (dSt D) k v)
    unfold stE
    obtain rfl | rfl | rfl | rfl | rfl | rfl : k = 0 ∨ k = 1 ∨ k = 2 ∨ k = 3 ∨ k = 4 ∨ k = 5 := by omega
    · rw [upd_at, upd_ne _ _ (by omega), upd_ne _ _ (by omega)]
      simp at v1 v2
      omega
    · rw [upd_at, upd_ne _ _ (by omega), upd_ne _ _ (by omega)]
      simp at v1 v2
      omega
    · rw [upd_at, upd_ne _ _ (by omega), upd_ne _ _ (by omega)]
      simp at v1 v2
      omega
    · rw [upd_ne _ _ (by omega), upd_ne _ _ (by omega), upd_ne _ _ (by omega)]
      exact hst
    · rw [upd_ne _ _ (by omega), upd_ne _ _ (by omega), upd_ne _ _ (by omega)]
      exact hst
    · rw [upd_ne _ _ (by omega), upd_ne _ _ (by omega), upd_ne _ _ (by omega)]
      exact hst
theorem DI.mono {j j' : Nat} (hj : j ≤ j') {D : gDom} (h : DI j D) : DI j' D := by
  have hcn := h.cn
  refine ⟨h.ok, h.st, h.tr, h.rw, h.ds, h.nb, h.sh, fun t ht => ?_, h.la, h.sw, h.co, h.hs, ?_, h.dn, h.ld, h.dy⟩
  · have := h.cu t ht
    omega
  · omega
def RelD (j : Nat) (DC D : gDom) : Prop := DRl DC D ∧ DI j D ∧ (∀ p, p < dSz D → ¬ dG D (p * 5 + 2) = 0) ∧ (dDy D).toInt ≤ 9999
theorem RelD.mono {j j' : Nat} (hj : j ≤ j') {DC D : gDom} (h : RelD j DC D) : RelD j' DC D := ⟨h.1, h.2.1.mono hj, h.2.2⟩
/-- the buffer of the text -/
def TxR (T : gTxt) (bf : Nat → Int32) (ty : Nat) : Prop := txOK T ∧ xLen T = ty ∧ ∀ i, i < ty → xCod T i = bf i ∧ 33 ≤ (bf i).toInt ∧ (bf i).toInt ≤ 126
theorem RelD.dm {j : Nat} {DC D : gDom} (h : RelD j DC D) : dmOK DC ∧ dSz DC = dSz D ∧ dSt DC = dSt D := by
  obtain ⟨⟨g, rfl, hp, -⟩, h2, -, -⟩ := h
  obtain ⟨h10, hr, h5, h51, h52, h4, h41, h42, h3, h31⟩ := h2.ok
  refine ⟨⟨⟨h10, fun p hpn => ?_⟩, h3, h31⟩, rfl, rfl⟩
  obtain ⟨q, hq, e⟩ := rows_of (hp.mem_iff.mp (rows_mem hpn))
  have := (hr q hq).1
  rw [← row_eq.mp e 1 (by omega)] at this
  exact this
theorem upL_0 (o : Nat → Int64) (x : Int64) : vp_updL o 0 x 0 = x := if_pos rfl
