/-! THE DAY'S WORK on both sides -/
theorem i_can {x y z : Int32} (h : x + z = y + z) : x = y := by rw [← Int32.add_sub_cancel x z, h, Int32.add_sub_cancel]
theorem i_rc (x y z : Int32) : x + y + z = x + z + y := by ac_rfl
theorem sum4_upd (f : Nat → Int32) {t : Nat} (ht : t < 4) (x : Int32) : sum4 (upd f t (f t + x)) = sum4 f + x := by
  unfold sum4
  obtain rfl | rfl | rfl | rfl : t = 0 ∨ t = 1 ∨ t = 2 ∨ t = 3 := by omega
  all_goals
    rw [upd_at]
    repeat rw [upd_ne _ _ (by omega)]
    ac_rfl
theorem clb_r {n : Nat} {o : Nat → Nat} {DC DR : gDom} {p : Nat} (ho : oOK n o) (hp : p < n) (hok : rOK DR) (htr : trI (dTr DR)) (he : ER n o DC DR) : clb DC p = true ↔ ¬ dG DR (o p * 5 + 2) ≤ 0 ∧ ¬ rpI (dTr DR) (tnx (dG DR (o p * 5 + 1))) 6 ≤ 0 := by
  obtain ⟨hn, g, rfl, hg⟩ := he
  have e1 : g (p * 5 + 1) = dG DR (o p * 5 + 1) := row_eq.mp (hg p hp) 1 (by omega)
  have e2 : g (p * 5 + 2) = dG DR (o p * 5 + 2) := row_eq.mp (hg p hp) 2 (by omega)
  have ht : tnx (dG DR (o p * 5 + 1)) < 4 := (hok.2.1 (o p) (by rw [hn]; exact ho.1 p hp)).1.2
  unfold clb
  show (decide (¬ g (p * 5 + 2) ≤ 0) && decide (¬ rdc (dTr DR) (tnx (g (p * 5 + 1))) 6 ≤ 0)) = true ↔ _
  rw [e1, e2, rdc_r htr.ok ht 6 (Nat.le_refl 6), Bool.and_eq_true, decide_eq_true_iff, decide_eq_true_iff]
theorem wl_r {j n : Nat} (hj : j ≤ 600) {o : Nat → Nat} {p : Nat} (ho : oOK n o) (hp : p < n) : ∀ (k : Nat) (DC DR : gDom) (v : Int32), DI j DR → ER n o DC DR →
    ER n o (wl p k DC).1 (wkR (o p) k DR v).1 ∧ (wl p k DC).2 = (wkR (o p) k DR v).2.2 ∧ DI j (wkR (o p) k DR v).1 ∧ (wkR (o p) k DR v).2.1 + sum4 (dLa DR) = v + sum4 (dLa (wkR (o p) k DR v).1) ∧ dDy (wkR (o p) k DR v).1 = dDy DR ∧ dSt (wkR (o p) k DR v).1 = dSt DR
  | 0, DC, DR, v, h, he => ⟨he, rfl, h, rfl, rfl, rfl⟩
  | k + 1, DC, DR, v, h, he => by
    have hs : o p < dSz DR := by rw [he.1]; exact ho.1 p hp
    have hcl := clb_r ho hp h.ok h.tr he
    unfold wl wkR
    by_cases hw : dG DR (o p * 5 + 2) ≤ 0
    · rw [if_neg (fun q => (hcl.mp q).1 hw), if_pos hw]
      exact ⟨he, rfl, h, rfl, rfl, rfl⟩
    · by_cases hR : rpI (dTr DR) (tnx (dG DR (o p * 5 + 1))) 6 ≤ 0
      · rw [if_neg (fun q => (hcl.mp q).2 hR), if_neg hw, if_pos hR]
        exact ⟨he, rfl, h, rfl, rfl, rfl⟩
      · rw [if_pos (hcl.mpr ⟨hw, hR⟩), if_neg hw, if_neg hR]
        obtain ⟨i1, i2, i3, i4, i5, i6⟩ := wl_r hj ho hp k (layD DC p) (lyD DR (o p)) (v + lyV DR (o p)) (h.ly hj hs hw hR) (lay_r ho hp h.ok h.tr he hw hR)
        refine ⟨i1, i2, i3, ?_, i5, i6⟩
        have ht : tnx (dG DR (o p * 5 + 1)) < 4 := (h.ok.2.1 (o p) hs).1.2
        have e : sum4 (dLa (lyD DR (o p))) = sum4 (dLa DR) + lyV DR (o p) := sum4_upd (dLa DR) ht (lyN DR (o p) - lyB DR (o p))
        rw [e] at i4
        have : (wkR (o p) k (lyD DR (o p)) (v + lyV DR (o p))).2.1 + sum4 (dLa DR) + lyV DR (o p) = v + sum4 (dLa (wkR (o p) k (lyD DR (o p)) (v + lyV DR (o p))).1) + lyV DR (o p) := by
          rw [Int32.add_assoc, i4]
          ac_rfl
        exact i_can this
theorem p2_r {j n : Nat} (hj : j ≤ 600) {o : Nat → Nat} (ho : oOK n o) : ∀ (m i : Nat) (DC DR : gDom) (v : Int32) (s : Nat), i + m ≤ n → DI j DR → ER n o DC DR →
    ER n o (p2 m i DC s).1 (w2 o m i DR v s).1 ∧ DI j (w2 o m i DR v s).1 ∧ (w2 o m i DR v s).2.1 + sum4 (dLa DR) = v + sum4 (dLa (w2 o m i DR v s).1) ∧ dDy (w2 o m i DR v s).1 = dDy DR ∧ dSt (w2 o m i DR v s).1 = dSt DR
  | 0, i, DC, DR, v, s, _, h, he => ⟨he, h, rfl, rfl, rfl⟩
  | m + 1, i, DC, DR, v, s, hi, h, he => by
    obtain ⟨a1, a2, a3, a4, a5, a6⟩ := wl_r hj ho (show i < n by omega) s DC DR 0 h he
    unfold p2 w2
    rw [a2]
    obtain ⟨i1, i2, i3, i4, i5⟩ := p2_r hj ho m (i + 1) (wl i s DC).1 (wkR (o i) s DR 0).1 (v + (wkR (o i) s DR 0).2.1) (wkR (o i) s DR 0).2.2 (by omega) a3 a1
    refine ⟨i1, i2, ?_, i4.trans a5, i5.trans a6⟩
    rw [Int32.zero_add] at a4
    rw [← a4, ← Int32.add_assoc] at i3
    have : (w2 o m (i + 1) (wkR (o i) s DR 0).1 (v + (wkR (o i) s DR 0).2.1) (wkR (o i) s DR 0).2.2).2.1 + sum4 (dLa DR) + (wkR (o i) s DR 0).2.1 = v + sum4 (dLa (w2 o m (i + 1) (wkR (o i) s DR 0).1 (v + (wkR (o i) s DR 0).2.1) (wkR (o i) s DR 0).2.2).1) + (wkR (o i) s DR 0).2.1 := by
      rw [i_rc, i3]
      ac_rfl
    exact i_can this
theorem ol_ok {o : Nat → Nat} {n : Nat} (h : (ol o n).Perm (List.range n)) : oOK n o := by
  have hat : ∀ p, p < n → (ol o n)[p]? = some (o p) := fun p hp => by
    unfold ol
    rw [List.getElem?_map, List.getElem?_range hp]
    rfl
  have hlen : (ol o n).length = n := by unfold ol; simp
  refine ⟨fun p hp => List.mem_range.mp (h.mem_iff.mp (List.mem_of_getElem? (hat p hp))), fun p q hp hq e => ?_⟩
  have hnd : (ol o n).Nodup := h.nodup_iff.mpr List.nodup_range
  exact (List.getElem?_inj (by rw [hlen]; exact hp) hnd).mp (by rw [hat p hp, hat q hq, e])
