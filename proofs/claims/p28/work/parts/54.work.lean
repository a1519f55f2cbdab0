/-! THE PURE HALF, taken over from whole by wip/p28/port2.py -/
/-! THE DAY'S WORK on both sides -/
theorem i_can {x y z : Int32} (h : x + z = y + z) : x = y := by rw [← Int32.add_sub_cancel x z, h, Int32.add_sub_cancel]
theorem i_rc (x y z : Int32) : x + y + z = x + z + y := by ac_rfl
theorem sum4_upd (f : Nat → Int32) {t : Nat} (ht : t < 4) (x : Int32) : sum4 (upd f t (f t + x)) = sum4 f + x := by
  unfold sum4
  obtain rfl | rfl | rfl | rfl : t = 0 ∨ t = 1 ∨ t = 2 ∨ t = 3 := by omega
  all_goals
    rw [upd_at]
    repeat rw [upd_ne _ _ (by omega)]
    ac_rfl
theorem clb_r {n : Nat} {o : Nat → Nat} {DC DR : gDom} {p : Nat} (ho : oOK n o) (hp : p < n) (hok : rOK DR) (htr : trI (dTr DR)) (he : ER n o DC DR) : clb DC p = true ↔ ¬ dG DR (o p * 5 + 2) ≤ 0 ∧ ¬ rpI (dTr DR) (tnx (dG DR (o p * 5 + 1))) 6 ≤ 0 := by
  obtain ⟨hn, g, rfl, hg⟩ := he
  have e1 : g (p * 5 + 1) = dG DR (o p * 5 + 1) := row_eq.mp (hg p hp) 1 (by omega)
  have e2 : g (p * 5 + 2) = dG DR (o p * 5 + 2) := row_eq.mp (hg p hp) 2 (by omega)
  have ht : tnx (dG DR (o p * 5 + 1)) < 4 := (hok.2.1 (o p) (by rw [hn]; exact ho.1 p hp)).1.2
  unfold clb
  show (decide (¬ g (p * 5 + 2) ≤ 0) && decide (¬ rdc (dTr DR) (tnx (g (p * 5 + 1))) 6 ≤ 0)) = true ↔ _
  rw [e1, e2, rdc_r htr.ok ht 6 (Nat.le_refl 6), Bool.and_eq_true, decide_eq_true_iff, decide_eq_true_iff]
theorem wl_r {j n : Nat} (hj : j ≤ 600) {o : Nat → Nat} {p : Nat} (ho : oOK n o) (hp : p < n) : ∀ (k : Nat) (DC DR : gDom) (v : Int32), DI j DR → ER n o DC DR →
    ER n o (wl p k DC).1 (wkR (o p) k DR v).1 ∧ (wl p k DC).2 = (wkR (o p) k DR v).2.2 ∧ DI j (wkR (o p) k DR v).1 ∧ (wkR (o p) k DR v).2.1 + sum4 (dLa DR) = v + sum4 (dLa (wkR (o p) k DR v).1) ∧ dDy (wkR (o p) k DR v).1 = dDy DR ∧ dSt (wkR (o p) k DR v).1 = dSt DR
  | 0, DC, DR, v, h, he => ⟨he, rfl, h, rfl, rfl, rfl⟩
  | k + 1, DC, DR, v, h, he => by
    have hs : o p < dSz DR := by rw [he.1]; exact ho.1 p hp
    have hcl := clb_r ho hp h.ok h.tr he
    unfold wl wkR
    by_cases hw : dG DR (o p * 5 + 2) ≤ 0
    · rw [if_neg (fun q => (hcl.mp q).1 hw), if_pos hw]
      exact ⟨he, rfl, h, rfl, rfl, rfl⟩
    · by_cases hR : rpI (dTr DR) (tnx (dG DR (o p * 5 + 1))) 6 ≤ 0
      · rw [if_neg (fun q => (hcl.mp q).2 hR), if_neg hw, if_pos hR]
        exact ⟨he, rfl, h, rfl, rfl, rfl⟩
      · rw [if_pos (hcl.mpr ⟨hw, hR⟩), if_neg hw, if_neg hR]
        obtain ⟨i1, i2, i3, i4, i5, i6⟩ := wl_r hj ho hp k (layD DC p) (lyD DR (o p)) (v + lyV DR (o p)) (h.ly hj hs hw hR) (lay_r ho hp h.ok h.tr he hw hR)
        refine ⟨i1, i2, i3, ?_, i5, i6⟩
        have ht : tnx (dG DR (o p * 5 + 1)) < 4 := (h.ok.2.1 (o p) hs).1.2
        have e : sum4 (dLa (lyD DR (o p))) = sum4 (dLa DR) + lyV DR (o p) := sum4_upd (dLa DR) ht (lyN DR (o p) - lyB DR (o p))
        rw [e] at i4
        have : (wkR (o p) k (lyD DR (o p)) (v + lyV DR (o p))).2.1 + sum4 (dLa DR) + lyV DR (o p) = v + sum4 (dLa (wkR (o p) k (lyD DR (o p)) (v + lyV DR (o p))).1) + lyV DR (o p) := by
          rw [Int32.add_assoc, i4]
          ac_rfl
        exact i_can this
theorem p2_r {j n : Nat} (hj : j ≤ 600) {o : Nat → Nat} (ho : oOK n o) : ∀ (m i : Nat) (DC DR : gDom) (v : Int32) (s : Nat), i + m ≤ n → DI j DR → ER n o DC DR →
    ER n o (p2 m i DC s).1 (w2 o m i DR v s).1 ∧ DI j (w2 o m i DR v s).1 ∧ (w2 o m i DR v s).2.1 + sum4 (dLa DR) = v + sum4 (dLa (w2 o m i DR v s).1) ∧ dDy (w2 o m i DR v s).1 = dDy DR ∧ dSt (w2 o m i DR v s).1 = dSt DR
  | 0, i, DC, DR, v, s, _, h, he => ⟨he, h, rfl, rfl, rfl⟩
  | m + 1, i, DC, DR, v, s, hi, h, he => by
    obtain ⟨a1, a2, a3, a4, a5, a6⟩ := wl_r hj ho (show i < n by omega) s DC DR 0 h he
    unfold p2 w2
    rw [a2]
    obtain ⟨i1, i2, i3, i4, i5⟩ := p2_r hj ho m (i + 1) (wl i s DC).1 (wkR (o i) s DR 0).1 (v + (wkR (o i) s DR 0).2.1) (wkR (o i) s DR 0).2.2 (by omega) a3 a1
    refine ⟨i1, i2, ?_, i4.trans a5, i5.trans a6⟩
    rw [Int32.zero_add] at a4
    rw [← a4, ← Int32.add_assoc] at i3
    have : (w2 o m (i + 1) (wkR (o i) s DR 0).1 (v + (wkR (o i) s DR 0).2.1) (wkR (o i) s DR 0).2.2).2.1 + sum4 (dLa DR) + (wkR (o i) s DR 0).2.1 = v + sum4 (dLa (w2 o m (i + 1) (wkR (o i) s DR 0).1 (v + (wkR (o i) s DR 0).2.1) (wkR (o i) s DR 0).2.2).1) + (wkR (o i) s DR 0).2.1 := by
      rw [i_rc, i3]
      ac_rfl
    exact i_can this
theorem ol_ok {o : Nat → Nat} {n : Nat} (h : (ol o n).Perm (List.range n)) : oOK n o := by
  have hat : ∀ p, p < n → (ol o n)[p]? = some (o p) := fun p hp => by
    unfold ol
    rw [List.getElem?_map, List.getElem?_range hp]
    rfl
  have hlen : (ol o n).length = n := by unfold ol; simp
  refine ⟨fun p hp => List.mem_range.mp (h.mem_iff.mp (List.mem_of_getElem? (hat p hp))), fun p q hp hq e => ?_⟩
  have hnd : (ol o n).Nodup := h.nodup_iff.mpr List.nodup_range
  exact (List.getElem?_inj (by rw [hlen]; exact hp) hnd).mp (by rw [hat p hp, hat q hq, e])

/-! SECTIONS DONE leave, on both sides -/
def keep (r : Rw) : Bool := decide (rWa r ≠ 0)
def fsum (φ : Rw → Int32) : List Rw → Int32
  | [] => 0
  | r :: l => φ r + fsum φ l
theorem fsum_app (φ : Rw → Int32) (b : List Rw) : ∀ a : List Rw, fsum φ (a ++ b) = fsum φ a + fsum φ b
  | [] => by show fsum φ b = 0 + fsum φ b; rw [Int32.zero_add]
  | r :: a => by show φ r + fsum φ (a ++ b) = φ r + fsum φ a + fsum φ b; rw [fsum_app φ b a, Int32.add_assoc]
theorem fsum_one (φ : Rw → Int32) (r : Rw) : fsum φ [r] = φ r := by show φ r + 0 = φ r; rw [Int32.add_zero]
theorem fsum_perm (φ : Rw → Int32) {a b : List Rw} (h : a.Perm b) : fsum φ a = fsum φ b := by
  induction h with
  | nil => rfl
  | cons x _ ih => show φ x + _ = φ x + _; rw [ih]
  | swap x y l => show φ y + (φ x + fsum φ l) = φ x + (φ y + fsum φ l); ac_rfl
  | trans _ _ h1 h2 => exact h1.trans h2
def f1 (r : Rw) : Int32 := if rWa r = 0 then 1 else 0
def f2 (y : Int32) (r : Rw) : Int32 := if rWa r = 0 then (if y - rDu r ≤ 0 then 0 else 1) else 0
def f3 (y : Int32) (r : Rw) : Int32 := if rWa r = 0 then (if y - rDu r ≤ 0 then 0 else y - rDu r) else 0
/-- a dome with other rows and other counts -/
def fin (D : gDom) (g : Nat → Int32) (n : Nat) (a b c : Int32) : gDom := (dTr D, g, n, dC D, dSt D, dSh D, dCu D, dLa D, dSw D, dDy D, dDn D + a, dLt D + b, dLd D + c, dSo D)
theorem cdD_f (D : gDom) (x : Int32) {r : Rw} (h0 : rWa r = 0) (hx : rDu r = x) : cdD D (dDy D - x) = fin D (dG D) (dSz D) (f1 r) (f2 (dDy D) r) (f3 (dDy D) r) := by
  subst hx
  unfold cdD fin f1 f2 f3
  rw [if_pos h0, if_pos h0, if_pos h0]
  by_cases h : dDy D - rDu r ≤ 0
  · rw [if_pos h, if_pos h, if_pos h, Int32.add_zero, Int32.add_zero]
  · rw [if_neg h, if_neg h, if_neg h]
theorem erase_mid {A B : List Rw} {x : Rw} {p : Nat} (h : A.length = p) : (A ++ x :: B).eraseIdx p = A ++ B := by
  subst h
  rw [List.eraseIdx_append_of_length_le (Nat.le_refl _), Nat.sub_self]
  rfl
theorem rows_er {g g' : Nat → Int32} {n p : Nat} (hp : p < n) (h : ∀ q, q < n - 1 → row g' q = row g (if p ≤ q then q + 1 else q)) : rows g' (n - 1) = (rows g n).eraseIdx p := by
  apply List.ext_getElem?
  intro q
  rw [List.getElem?_eraseIdx]
  by_cases hq : q < n - 1
  · rw [rows_at hq, h q hq]
    by_cases hpq : p ≤ q
    · rw [if_pos hpq, if_neg (by omega), rows_at (by omega)]
    · rw [if_neg hpq, if_pos (by omega), rows_at (by omega)]
  · rw [List.getElem?_eq_none (by rw [rows_len]; omega)]
    by_cases hpq : q < p
    · omega
    · rw [if_neg hpq, List.getElem?_eq_none (by rw [rows_len]; omega)]
theorem row_rm {g : Nat → Int32} {n p : Nat} (hp : p < n) (q : Nat) (hq : q < n - 1) : row (rmO g p (n - 1 - p)) q = row g (if p ≤ q then q + 1 else q) := by
  refine row_eq.mpr fun k hk => ?_
  rw [rmO_at hk]
  by_cases h : p ≤ q
  · rw [if_pos h, if_pos ⟨h, by omega⟩]
  · rw [if_neg h, if_neg (by omega)]
theorem row_to {g : Nat → Int32} {n p : Nat} (hp : p < n) (q : Nat) (hq : q < n - 1) : row (toF g (5 * p) (5 * (n - 1) - 5 * p)) q = row g (if p ≤ q then q + 1 else q) := by
  refine row_eq.mpr fun k hk => ?_
  rw [toF_at _ _ _ _ _ hk (by omega)]
  by_cases h : p ≤ q
  · rw [if_pos h, if_pos ⟨h, hq⟩]
  · rw [if_neg h, if_neg (by omega)]
theorem fin_fin (D : gDom) (g g' : Nat → Int32) (n n' : Nat) (a b c a' b' c' : Int32) : fin (fin D g n a b c) g' n' a' b' c' = fin D g' n' (a + a') (b + b') (c + c') := by
  unfold fin
  show (dTr D, g', n', dC D, dSt D, dSh D, dCu D, dLa D, dSw D, dDy D, dDn D + a + a', dLt D + b + b', dLd D + c + c', dSo D) = _
  rw [Int32.add_assoc, Int32.add_assoc, Int32.add_assoc]
theorem fin_0 (D : gDom) : fin D (dG D) (dSz D) 0 0 0 = D := by
  unfold fin
  rw [Int32.add_zero, Int32.add_zero, Int32.add_zero]
theorem dsR_d : ∀ (m : Nat) (D : gDom) (B : List Rw), rows (dG D) (dSz D) = rows (dG D) m ++ B → m ≤ dSz D → ∃ g' n', dsR m D = fin D g' n' (fsum f1 (rows (dG D) m)) (fsum (f2 (dDy D)) (rows (dG D) m)) (fsum (f3 (dDy D)) (rows (dG D) m)) ∧ rows g' n' = (rows (dG D) m).filter keep ++ B
  | 0, D, B, h, _ => ⟨dG D, dSz D, (fin_0 D).symm, h⟩
  | p + 1, D, B, h, hm => by
    rw [rows_s, List.append_assoc] at h
    unfold dsR dsS
    rw [rows_s, fsum_app, fsum_app, fsum_app, fsum_one, fsum_one, fsum_one, List.filter_append]
    by_cases hc : dG D (p * 5 + 2) = 0
    · have h0 : rWa (row (dG D) p) = 0 := hc
      rw [if_pos hc, cdD_f D (dG D (p * 5 + 3)) h0 rfl]
      have er : rows (rmO (dG D) p (dSz D - 1 - p)) (dSz D - 1) = rows (dG D) p ++ B := by
        rw [rows_er (show p < dSz D by omega) (row_rm (by omega)), h]
        exact erase_mid (rows_len _ _)
      have ep : rows (rmO (dG D) p (dSz D - 1 - p)) p = rows (dG D) p := rows_c fun q hq => by rw [row_rm (show p < dSz D by omega) q (by omega), if_neg (by omega)]
      obtain ⟨g', n', i1, i2⟩ := dsR_d p (rmD (fin D (dG D) (dSz D) (f1 (row (dG D) p)) (f2 (dDy D) (row (dG D) p)) (f3 (dDy D) (row (dG D) p))) p) B (by
        show rows (rmO (dG D) p (dSz D - 1 - p)) (dSz D - 1) = rows (rmO (dG D) p (dSz D - 1 - p)) p ++ B
        rw [er, ep]) (by show p ≤ dSz D - 1; omega)
      refine ⟨g', n', ?_, ?_⟩
      · rw [i1]
        show fin (fin D _ _ _ _ _) g' n' (fsum f1 (rows (rmO (dG D) p (dSz D - 1 - p)) p)) (fsum (f2 (dDy D)) (rows (rmO (dG D) p (dSz D - 1 - p)) p)) (fsum (f3 (dDy D)) (rows (rmO (dG D) p (dSz D - 1 - p)) p)) = _
        rw [fin_fin, ep, Int32.add_comm (f1 _), Int32.add_comm (f2 _ _), Int32.add_comm (f3 _ _)]
      · rw [i2]
        show (rows (rmO (dG D) p (dSz D - 1 - p)) p).filter keep ++ B = _
        rw [ep, List.filter_cons_of_neg (by unfold keep; simp [h0])]
        simp
    · have h0 : ¬ rWa (row (dG D) p) = 0 := hc
      rw [if_neg hc]
      obtain ⟨g', n', i1, i2⟩ := dsR_d p D ([row (dG D) p] ++ B) h (by omega)
      refine ⟨g', n', ?_, ?_⟩
      · rw [i1]
        rw [show f1 (row (dG D) p) = 0 from if_neg h0, show f2 (dDy D) (row (dG D) p) = 0 from if_neg h0, show f3 (dDy D) (row (dG D) p) = 0 from if_neg h0, Int32.add_zero, Int32.add_zero, Int32.add_zero]
      · rw [i2, List.filter_cons_of_pos (by unfold keep; simp [h0])]
        simp
theorem edR_d : ∀ (m : Nat) (D : gDom) (B : List Rw), rows (dG D) (dSz D) = rows (dG D) m ++ B → m ≤ dSz D → ∃ g' n', edR m D = fin D g' n' (fsum f1 (rows (dG D) m)) (fsum (f2 (dDy D)) (rows (dG D) m)) (fsum (f3 (dDy D)) (rows (dG D) m)) ∧ rows g' n' = (rows (dG D) m).filter keep ++ B
  | 0, D, B, h, _ => ⟨dG D, dSz D, (fin_0 D).symm, h⟩
  | p + 1, D, B, h, hm => by
    rw [rows_s, List.append_assoc] at h
    unfold edR edS
    rw [rows_s, fsum_app, fsum_app, fsum_app, fsum_one, fsum_one, fsum_one, List.filter_append]
    by_cases hc : dG D (p * 5 + 2) = 0
    · have h0 : rWa (row (dG D) p) = 0 := hc
      rw [if_pos hc, cdD_f D (dG D (p * 5 + 3)) h0 rfl]
      have er : rows (toF (dG D) (5 * p) (5 * (dSz D - 1) - 5 * p)) (dSz D - 1) = rows (dG D) p ++ B := by
        rw [rows_er (show p < dSz D by omega) (row_to (by omega)), h]
        exact erase_mid (rows_len _ _)
      have ep : rows (toF (dG D) (5 * p) (5 * (dSz D - 1) - 5 * p)) p = rows (dG D) p := rows_c fun q hq => by rw [row_to (show p < dSz D by omega) q (by omega), if_neg (by omega)]
      obtain ⟨g', n', i1, i2⟩ := edR_d p (toD (fin D (dG D) (dSz D) (f1 (row (dG D) p)) (f2 (dDy D) (row (dG D) p)) (f3 (dDy D) (row (dG D) p))) p (dSz D - 1)) B (by
        show rows (toF (dG D) (5 * p) (5 * (dSz D - 1) - 5 * p)) (dSz D - 1) = rows (toF (dG D) (5 * p) (5 * (dSz D - 1) - 5 * p)) p ++ B
        rw [er, ep]) (by show p ≤ dSz D - 1; omega)
      refine ⟨g', n', ?_, ?_⟩
      · rw [i1]
        show fin (fin D _ _ _ _ _) g' n' (fsum f1 (rows (toF (dG D) (5 * p) (5 * (dSz D - 1) - 5 * p)) p)) (fsum (f2 (dDy D)) (rows (toF (dG D) (5 * p) (5 * (dSz D - 1) - 5 * p)) p)) (fsum (f3 (dDy D)) (rows (toF (dG D) (5 * p) (5 * (dSz D - 1) - 5 * p)) p)) = _
        rw [fin_fin, ep, Int32.add_comm (f1 _), Int32.add_comm (f2 _ _), Int32.add_comm (f3 _ _)]
      · rw [i2]
        show (rows (toF (dG D) (5 * p) (5 * (dSz D - 1) - 5 * p)) p).filter keep ++ B = _
        rw [ep, List.filter_cons_of_neg (by unfold keep; simp [h0])]
        simp
    · have h0 : ¬ rWa (row (dG D) p) = 0 := hc
      rw [if_neg hc]
      obtain ⟨g', n', i1, i2⟩ := edR_d p D ([row (dG D) p] ++ B) h (by omega)
      refine ⟨g', n', ?_, ?_⟩
      · rw [i1]
        rw [show f1 (row (dG D) p) = 0 from if_neg h0, show f2 (dDy D) (row (dG D) p) = 0 from if_neg h0, show f3 (dDy D) (row (dG D) p) = 0 from if_neg h0, Int32.add_zero, Int32.add_zero, Int32.add_zero]
      · rw [i2, List.filter_cons_of_pos (by unfold keep; simp [h0])]
        simp
/-- the reference keeps what a dome keeps -/
theorem hsu_to {g g' : Nat → Int32} {t s n : Nat} (hs : s < n) (h : ∀ q, q < n - 1 → row g' q = row g (if s ≤ q then q + 1 else q)) : ∀ m, m ≤ n - 1 → (m ≤ s → hsu g' t m = hsu g t m) ∧ (s ≤ m → hsu g' t m + (if g (s * 5 + 1) = nI t then (g (s * 5 + 4)).toInt else 0) = hsu g t (m + 1))
  | 0, _ => ⟨fun _ => rfl, fun q => by
    obtain rfl : s = 0 := by omega
    rfl⟩
  | m + 1, hm => by
    obtain ⟨i1, i2⟩ := hsu_to hs h m (by omega)
    have e := row_eq.mp (h m (by omega))
    have e1 := e 1 (by omega)
    have e4 := e 4 (by omega)
    refine ⟨fun q => ?_, fun q => ?_⟩
    · unfold hsu
      rw [i1 (by omega), e1, e4, if_neg (show ¬ s ≤ m by omega)]
    · by_cases hsm : s = m + 1
      · subst hsm
        have := i1 (by omega)
        rw [if_neg (show ¬ m + 1 ≤ m by omega)] at e1 e4
        show hsu g' t m + _ + _ = hsu g t m + _ + _
        rw [this, e1, e4]
      · have := i2 (by omega)
        rw [if_pos (show s ≤ m by omega)] at e1 e4
        show hsu g' t m + _ + _ = hsu g t (m + 1) + _
        rw [← this, e1, e4]
        omega

