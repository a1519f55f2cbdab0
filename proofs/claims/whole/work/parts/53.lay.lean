/-! A SECTION LAID on both sides, and what a dome keeps -/
theorem row_eq {g G : Nat → Int32} {p q : Nat} : row g p = row G q ↔ ∀ k, k < 5 → g (p * 5 + k) = G (q * 5 + k) := by
  unfold row
  simp only [Prod.mk.injEq]
  refine ⟨fun ⟨h0, h1, h2, h3, h4⟩ k hk => ?_, fun h => ⟨h 0 (by omega), h 1 (by omega), h 2 (by omega), h 3 (by omega), h 4 (by omega)⟩⟩
  obtain rfl | rfl | rfl | rfl | rfl : k = 0 ∨ k = 1 ∨ k = 2 ∨ k = 3 ∨ k = 4 := by omega
  · exact h0
  · exact h1
  · exact h2
  · exact h3
  · exact h4
theorem tkn_n {x y : Int32} {q c : Nat} (hx : x = nI q) (hq : q = 0 ∨ 2 ≤ q) (hq9 : q ≤ 99) (hy : y = nI c) (hc : 1 ≤ c) (hc5 : c ≤ 500) : tkn x y = nI (tkN q c) := by
  subst hx
  subst hy
  unfold tkn tkN
  rcases hq with rfl | hq
  · rw [if_pos (by decide), if_pos (by decide)]
  · have h1 : ¬ nI (q - 1) < (1 : Int32) := mt (glt rfl (gk 1) (by omega) (by omega)).mp (by omega)
    rw [show nI q - 1 = nI (q - 1) from gsub rfl (gk 1) (by omega), show nI c - 1 = nI (c - 1) from gsub rfl (gk 1) hc, if_neg h1, if_neg (by omega), pk_div (by omega) (by omega) (by omega), nI_add]
theorem layX_r {D : gDom} {g : Nat → Int32} {p s : Nat} (hok : rOK D) (hs : s < dSz D) (htr : trI (dTr D)) (hrow : row g p = row (dG D) s) (hw : ¬ dG D (s * 5 + 2) ≤ 0) (hR : ¬ rpI (dTr D) (tnx (dG D (s * 5 + 1))) 6 ≤ 0) :
    layX (setG D g) p = (lcR (tnx (dG D (s * 5 + 1))) 6 0 (dTr D) (lyN D s), lyN D s) ∧ layB (setG D g) p = lyB D s ∧ trI (lcR (tnx (dG D (s * 5 + 1))) 6 0 (dTr D) (lyN D s)) ∧ sm (lcR (tnx (dG D (s * 5 + 1))) 6 0 (dTr D) (lyN D s)) 24 = sm (dTr D) 24 - (lyN D s).toInt := by
  obtain ⟨h10, hr, h5, h51, h52, h4, h41, h42, h3, h31⟩ := id hok
  obtain ⟨⟨hT, ht⟩, hC, hc⟩ := hr s hs
  have hc1 : 1 ≤ tnx (dG D (s * 5 + 2)) := nI_pos1 (hC ▸ hw)
  have hk := tkN_le (q := tnx (dSt D 5)) hc1
  have e1 : g (p * 5 + 1) = dG D (s * 5 + 1) := row_eq.mp hrow 1 (by omega)
  have e2 : g (p * 5 + 2) = dG D (s * 5 + 2) := row_eq.mp hrow 2 (by omega)
  have ex : tkn (dSt D 5) (g (p * 5 + 2)) = nI (tkN (tnx (dSt D 5)) (tnx (dG D (s * 5 + 2)))) := by
    rw [e2]
    exact tkn_n h5 h51 h52 hC hc1 hc
  have hxi : (nI (tkN (tnx (dSt D 5)) (tnx (dG D (s * 5 + 2))))).toInt = (tkN (tnx (dSt D 5)) (tnx (dG D (s * 5 + 2))) : Int) := iN (by omega)
  have h4i : (dSt D 4).toInt = (tnx (dSt D 4) : Int) := by
    have := iN (n := tnx (dSt D 4)) (by omega)
    rw [← h4] at this
    exact this
  have hW : (layW (setG D g) p).toInt = min (nI (tkN (tnx (dSt D 5)) (tnx (dG D (s * 5 + 2))))).toInt (dSt D 4).toInt := by
    show (if dSt D 4 < tkn (dSt D 5) (g (p * 5 + 2)) then dSt D 4 else tkn (dSt D 5) (g (p * 5 + 2))).toInt = _
    rw [ex]
    split
    · have := ilt.mp ‹_›
      omega
    · have := mt ilt.mpr ‹_›
      omega
  have hrp := rpI_t htr ht 6 (Nat.le_refl 6)
  have hrb := rem_b htr ht 6 0 (by omega)
  have hN : (lyN D s).toInt = min ((layW (setG D g) p).toInt - (0 : Int32).toInt) (rem (dTr D) (tnx (dG D (s * 5 + 1))) 6 0) := by
    unfold lyN lyK
    rw [lyA_t, lyA_t, hrp, hW, i0, Int.sub_zero]
  obtain ⟨t1, t2, t3⟩ := take_r (w := layW (setG D g) p) (by omega) (by omega) ht 6 0 (dTr D) 0 (lyN D s) rfl htr (by rw [i0]; omega) (by rw [i0]; omega) hN
  have hX : layX (setG D g) p = (lcR (tnx (dG D (s * 5 + 1))) 6 0 (dTr D) (lyN D s), lyN D s) := by
    show tkR (tnx (g (p * 5 + 1))) (layW (setG D g) p) 6 0 (dTr D) 0 = _
    rw [e1, t1, Int32.zero_add]
  refine ⟨hX, ?_, t2, t3⟩
  unfold layB lyB brkI
  rw [hX]
  show (if dSt D 5 ≤ 0 then 0 else lyN D s / dSt D 5) = _
  by_cases hq : dSt D 5 = 0
  · rw [if_pos hq, if_pos (by rw [hq]; exact Int32.le_refl _)]
  · rw [if_neg hq, if_neg]
    intro q
    refine hq ?_
    rw [h5] at q ⊢
    have := (nI_leI (a := tnx (dSt D 5)) (b := 0) (by omega) (by omega)).mp q
    rw [show tnx (dSt D 5) = 0 by omega]
    rfl
/-- places and rows: the class's place p holds what the reference's row o p holds -/
def ER (n : Nat) (o : Nat → Nat) (DC DR : gDom) : Prop := dSz DR = n ∧ ∃ g, DC = setG DR g ∧ ∀ p, p < n → row g p = row (dG DR) (o p)
def oOK (n : Nat) (o : Nat → Nat) : Prop := (∀ p, p < n → o p < n) ∧ ∀ p q, p < n → q < n → o p = o q → p = q
theorem layF_at (g : Nat → Int32) (s : Nat) (v : Int32) (q k : Nat) (hk : k < 5) : layF g s v (q * 5 + k) = if q = s ∧ k = 4 then g (q * 5 + k) + v else if q = s ∧ k = 2 then g (q * 5 + k) - v else g (q * 5 + k) := by
  unfold layF upd
  by_cases h : q = s
  · subst h
    by_cases h4 : k = 4
    · subst h4
      simp
    · by_cases h2 : k = 2
      · subst h2
        simp
      · rw [if_neg (by omega), if_neg (by omega), if_neg (by omega), if_neg (by omega)]
  · rw [if_neg (by omega), if_neg (by omega), if_neg (by omega), if_neg (by omega)]
theorem lay_r {n : Nat} {o : Nat → Nat} {DC DR : gDom} {p : Nat} (ho : oOK n o) (hp : p < n) (hok : rOK DR) (htr : trI (dTr DR)) (he : ER n o DC DR) (hw : ¬ dG DR (o p * 5 + 2) ≤ 0) (hR : ¬ rpI (dTr DR) (tnx (dG DR (o p * 5 + 1))) 6 ≤ 0) : ER n o (layD DC p) (lyD DR (o p)) := by
  obtain ⟨hn, g, rfl, hg⟩ := he
  obtain ⟨hX, hB, -, -⟩ := layX_r (g := g) hok (by rw [hn]; exact ho.1 p hp) htr (hg p hp) hw hR
  have e1 : g (p * 5 + 1) = dG DR (o p * 5 + 1) := row_eq.mp (hg p hp) 1 (by omega)
  refine ⟨hn, layF g p (lyN DR (o p) - lyB DR (o p)), ?_, fun q hq => ?_⟩
  · unfold layD layD0
    rw [hX, hB, show dG (setG DR g) (p * 5 + 1) = dG DR (o p * 5 + 1) from e1]
    rfl
  · refine row_eq.mpr fun k hk => ?_
    show layF g p _ (q * 5 + k) = layG (dG DR) (o p) _ (o q * 5 + k)
    rw [layF_at _ _ _ _ _ hk, layG_at _ _ _ _ _ hk]
    have e := row_eq.mp (hg q hq) k hk
    by_cases hqp : q = p
    · subst hqp
      rw [e]
      by_cases h4 : k = 4
      · simp [h4]
      · by_cases h2 : k = 2
        · simp [h2]
        · simp [h4, h2]
    · have hoq : o q ≠ o p := fun q2 => hqp (ho.2 q p hq hp q2)
      simp [hqp, hoq, e]
/-! what a dome keeps -/
def stE (s : Nat → Int32) : Prop := 1 ≤ (s 0).toInt ∧ (s 0).toInt ≤ 200 ∧ 10 ≤ (s 1).toInt ∧ (s 1).toInt ≤ 500 ∧ 0 ≤ (s 2).toInt ∧ (s 2).toInt ≤ 1
/-- what came in for a tone, of the sections that are there -/
def hsu (g : Nat → Int32) (t : Nat) : Nat → Int
  | 0 => 0
  | n + 1 => hsu g t n + (if g (n * 5 + 1) = nI t then (g (n * 5 + 4)).toInt else 0)
def rowE (g : Nat → Int32) (p : Nat) : Prop := 0 ≤ (g (p * 5 + 3)).toInt ∧ (g (p * 5 + 3)).toInt ≤ 999 ∧ 0 ≤ (g (p * 5 + 4)).toInt ∧ 0 ≤ (g (p * 5 + 2)).toInt ∧ (g (p * 5 + 4)).toInt + (g (p * 5 + 2)).toInt ≤ 500
def DI (j : Nat) (D : gDom) : Prop := (rOK D) ∧ (stE (dSt D)) ∧ (trI (dTr D)) ∧ (∀ p, p < dSz D → rowE (dG D) p) ∧ (∀ p q, p < q → q < dSz D → (dG D (p * 5 + 0)).toInt < (dG D (q * 5 + 0)).toInt) ∧ (∀ p, p < dSz D → 0 ≤ (dG D (p * 5 + 0)).toInt ∧ (dG D (p * 5 + 0)).toInt < (dC D).toInt) ∧ (∀ t, t < 4 → 0 ≤ (dSh D t).toInt ∧ (dSh D t).toInt ≤ 999) ∧ (∀ t, t < 4 → 0 ≤ (dCu D t).toInt ∧ (dCu D t).toInt ≤ 200 * j) ∧ (∀ t, t < 4 → 0 ≤ (dLa D t).toInt) ∧ (∀ t, t < 4 → 0 ≤ (dSw D t).toInt) ∧ (sm (dTr D) 24 + sm (dLa D) 4 + sm (dSw D) 4 = sm (dCu D) 4) ∧ (∀ t, t < 4 → hsu (dG D) t (dSz D) ≤ (dLa D t).toInt) ∧ (0 ≤ (dC D).toInt ∧ (dC D).toInt ≤ 10 * j) ∧ (0 ≤ (dDn D).toInt ∧ (dDn D).toInt + dSz D ≤ (dC D).toInt) ∧ (0 ≤ (dLd D).toInt ∧ (dLd D).toInt ≤ 11000 * (dDn D).toInt) ∧ (0 ≤ (dDy D).toInt)
theorem DI.ok {j : Nat} {D : gDom} (h : DI j D) : rOK D := h.1
theorem DI.st {j : Nat} {D : gDom} (h : DI j D) : stE (dSt D) := h.2.1
theorem DI.tr {j : Nat} {D : gDom} (h : DI j D) : trI (dTr D) := h.2.2.1
theorem DI.rw {j : Nat} {D : gDom} (h : DI j D) : ∀ p, p < dSz D → rowE (dG D) p := h.2.2.2.1
theorem DI.ds {j : Nat} {D : gDom} (h : DI j D) : ∀ p q, p < q → q < dSz D → (dG D (p * 5 + 0)).toInt < (dG D (q * 5 + 0)).toInt := h.2.2.2.2.1
theorem DI.nb {j : Nat} {D : gDom} (h : DI j D) : ∀ p, p < dSz D → 0 ≤ (dG D (p * 5 + 0)).toInt ∧ (dG D (p * 5 + 0)).toInt < (dC D).toInt := h.2.2.2.2.2.1
theorem DI.sh {j : Nat} {D : gDom} (h : DI j D) : ∀ t, t < 4 → 0 ≤ (dSh D t).toInt ∧ (dSh D t).toInt ≤ 999 := h.2.2.2.2.2.2.1
theorem DI.cu {j : Nat} {D : gDom} (h : DI j D) : ∀ t, t < 4 → 0 ≤ (dCu D t).toInt ∧ (dCu D t).toInt ≤ 200 * j := h.2.2.2.2.2.2.2.1
theorem DI.la {j : Nat} {D : gDom} (h : DI j D) : ∀ t, t < 4 → 0 ≤ (dLa D t).toInt := h.2.2.2.2.2.2.2.2.1
theorem DI.sw {j : Nat} {D : gDom} (h : DI j D) : ∀ t, t < 4 → 0 ≤ (dSw D t).toInt := h.2.2.2.2.2.2.2.2.2.1
theorem DI.co {j : Nat} {D : gDom} (h : DI j D) : sm (dTr D) 24 + sm (dLa D) 4 + sm (dSw D) 4 = sm (dCu D) 4 := h.2.2.2.2.2.2.2.2.2.2.1
theorem DI.hs {j : Nat} {D : gDom} (h : DI j D) : ∀ t, t < 4 → hsu (dG D) t (dSz D) ≤ (dLa D t).toInt := h.2.2.2.2.2.2.2.2.2.2.2.1
theorem DI.cn {j : Nat} {D : gDom} (h : DI j D) : 0 ≤ (dC D).toInt ∧ (dC D).toInt ≤ 10 * j := h.2.2.2.2.2.2.2.2.2.2.2.2.1
theorem DI.dn {j : Nat} {D : gDom} (h : DI j D) : 0 ≤ (dDn D).toInt ∧ (dDn D).toInt + dSz D ≤ (dC D).toInt := h.2.2.2.2.2.2.2.2.2.2.2.2.2.1
theorem DI.ld {j : Nat} {D : gDom} (h : DI j D) : 0 ≤ (dLd D).toInt ∧ (dLd D).toInt ≤ 11000 * (dDn D).toInt := h.2.2.2.2.2.2.2.2.2.2.2.2.2.2.1
theorem DI.dy {j : Nat} {D : gDom} (h : DI j D) : 0 ≤ (dDy D).toInt := h.2.2.2.2.2.2.2.2.2.2.2.2.2.2.2
theorem sm_le {f : Nat → Int32} : ∀ {n : Nat}, (∀ i, i < n → 0 ≤ (f i).toInt) → 0 ≤ sm f n ∧ ∀ i, i < n → (f i).toInt ≤ sm f n
  | 0, _ => ⟨Int.le_refl 0, fun i hi => absurd hi (Nat.not_lt_zero _)⟩
  | n + 1, h => by
    obtain ⟨h1, h2⟩ := sm_le (n := n) (fun i hi => h i (by omega))
    have h3 := h n (by omega)
    unfold sm
    refine ⟨by omega, fun i hi => ?_⟩
    by_cases e : i = n
    · subst e; omega
    · have := h2 i (by omega)
      omega
theorem DI.big {j : Nat} {D : gDom} (h : DI j D) : sm (dCu D) 4 ≤ 800 * j ∧ 0 ≤ sm (dTr D) 24 ∧ 0 ≤ sm (dLa D) 4 ∧ 0 ≤ sm (dSw D) 4 ∧ ∀ t, t < 4 → (dLa D t).toInt ≤ 800 * j ∧ (dSw D t).toInt ≤ 800 * j := by
  have c0 := h.cu 0 (by omega)
  have c1 := h.cu 1 (by omega)
  have c2 := h.cu 2 (by omega)
  have c3 := h.cu 3 (by omega)
  have e : sm (dCu D) 4 = 0 + (dCu D 0).toInt + (dCu D 1).toInt + (dCu D 2).toInt + (dCu D 3).toInt := rfl
  have t1 := sm_le (f := dTr D) (n := 24) h.tr.1
  have t2 := sm_le (f := dLa D) (n := 4) h.la
  have t3 := sm_le (f := dSw D) (n := 4) h.sw
  have co := h.co
  refine ⟨by omega, t1.1, t2.1, t3.1, fun t ht => ?_⟩
  have := t2.2 t ht
  have := t3.2 t ht
  omega
theorem hs_c {g g' : Nat → Int32} {t : Nat} : ∀ {n : Nat}, (∀ p, p < n → g (p * 5 + 1) = g' (p * 5 + 1) ∧ g (p * 5 + 4) = g' (p * 5 + 4)) → hsu g t n = hsu g' t n
  | 0, _ => rfl
  | n + 1, h => by
    unfold hsu
    rw [hs_c (n := n) (fun p hp => h p (by omega)), (h n (by omega)).1, (h n (by omega)).2]
theorem hs_ly {g : Nat → Int32} {t s : Nat} {v : Int32} (hv : (g (s * 5 + 4) + v).toInt = (g (s * 5 + 4)).toInt + v.toInt) : ∀ n, hsu (layG g s v) t n = hsu g t n + (if s < n ∧ g (s * 5 + 1) = nI t then v.toInt else 0)
  | 0 => by
    unfold hsu
    rw [if_neg (by omega)]
    rfl
  | n + 1 => by
    have a1 : layG g s v (n * 5 + 1) = g (n * 5 + 1) := by
      rw [layG_at _ _ _ _ _ (by omega), if_neg (by omega), if_neg (by omega)]
    have a4 : layG g s v (n * 5 + 4) = if n = s then g (n * 5 + 4) + v else g (n * 5 + 4) := by
      rw [layG_at _ _ _ _ _ (by omega)]
      by_cases hn : n = s
      · simp [hn]
      · simp [hn]
    unfold hsu
    rw [hs_ly hv n, a1, a4]
    by_cases hn : n = s
    · subst hn
      rw [if_pos rfl, hv]
      by_cases ht : g (n * 5 + 1) = nI t
      · rw [if_neg (by omega), if_pos ht, if_pos ht, if_pos ⟨by omega, ht⟩]
        omega
      · rw [if_neg (by omega), if_neg ht, if_neg ht, if_neg (by simp [ht])]
    · rw [if_neg hn]
      by_cases hc : s < n ∧ g (s * 5 + 1) = nI t
      · have hc' : s < n + 1 ∧ g (s * 5 + 1) = nI t := ⟨by omega, hc.2⟩
        rw [if_pos hc, if_pos hc']
        omega
      · have hc' : ¬ (s < n + 1 ∧ g (s * 5 + 1) = nI t) := fun q => hc ⟨by omega, q.2⟩
        rw [if_neg hc, if_neg hc']
        omega
theorem DI.ly {j : Nat} {D : gDom} {s : Nat} (hj : j ≤ 600) (h : DI j D) (hs : s < dSz D) (hw : ¬ dG D (s * 5 + 2) ≤ 0) (hR : ¬ rpI (dTr D) (tnx (dG D (s * 5 + 1))) 6 ≤ 0) : DI j (lyD D s) := by
  obtain ⟨-, -, t2, t3⟩ := layX_r (g := dG D) (p := s) h.ok hs h.tr rfl hw hR
  obtain ⟨n, n1, n2, n3, n4, n5, n6, n7⟩ := lyN_n h.ok hs hw hR
  obtain ⟨h10, hr, h5, h51, h52, h4, h41, h42, h3, h31⟩ := id h.ok
  obtain ⟨⟨hT, ht⟩, hC, hc⟩ := hr s hs
  have hc1 : 1 ≤ tnx (dG D (s * 5 + 2)) := nI_pos1 (hC ▸ hw)
  have htop := tkN_top h51 hc1 n3
  have hd : n / tnx (dSt D 5) ≤ n := Nat.div_le_self _ _
  generalize n / tnx (dSt D 5) = d at n6 n7 htop hd
  have eN : (lyN D s).toInt = (n : Int) := by rw [n5, iN (by omega)]
  have eB : (lyB D s).toInt = (d : Int) := by rw [n6, iN (by omega)]
  have eV : (lyN D s - lyB D s).toInt = ((n - d : Nat) : Int) := by
    have : lyV D s = lyN D s - lyB D s := rfl
    rw [← this, n7, iN (by omega)]
  have eW : (dG D (s * 5 + 2)).toInt = (tnx (dG D (s * 5 + 2)) : Int) := by
    have := iN (n := tnx (dG D (s * 5 + 2))) (by omega)
    rw [← hC] at this
    exact this
  have hrow := h.rw s hs
  unfold rowE at hrow
  have big := h.big
  have bt := big.2.2.2.2 _ ht
  have hla := h.la _ ht
  have hsw := h.sw _ ht
  have eL : (dLa D (tnx (dG D (s * 5 + 1))) + (lyN D s - lyB D s)).toInt = (dLa D (tnx (dG D (s * 5 + 1)))).toInt + (lyN D s - lyB D s).toInt := ia (by omega) (by omega)
  have eS : (dSw D (tnx (dG D (s * 5 + 1))) + lyB D s).toInt = (dSw D (tnx (dG D (s * 5 + 1)))).toInt + (lyB D s).toInt := ia (by omega) (by omega)
  have eH : (dG D (s * 5 + 4) + (lyN D s - lyB D s)).toInt = (dG D (s * 5 + 4)).toInt + (lyN D s - lyB D s).toInt := ia (by omega) (by omega)
  have eQ : (dG D (s * 5 + 2) - (lyN D s - lyB D s)).toInt = (dG D (s * 5 + 2)).toInt - (lyN D s - lyB D s).toInt := is (by omega) (by omega)
  have g0 : ∀ p, dG (lyD D s) (p * 5 + 0) = dG D (p * 5 + 0) := fun p => by
    show layG _ _ _ _ = _
    rw [layG_at _ _ _ _ _ (by omega), if_neg (by omega), if_neg (by omega)]
  refine ⟨rOK_ly h.ok hs hw hR, h.st, t2, fun p hp => ?_, fun p q hpq hq => ?_, fun p hp => ?_, h.sh, h.cu, fun t ht2 => ?_, fun t ht2 => ?_, ?_, fun t ht2 => ?_, h.cn, h.dn, h.ld, h.dy⟩
  · have hp' : p < dSz D := hp
    have hrp := h.rw p hp'
    unfold rowE at hrp ⊢
    show 0 ≤ (layG _ _ _ _).toInt ∧ (layG _ _ _ _).toInt ≤ 999 ∧ 0 ≤ (layG _ _ _ _).toInt ∧ 0 ≤ (layG _ _ _ _).toInt ∧ (layG _ _ _ _).toInt + (layG _ _ _ _).toInt ≤ 500
    rw [layG_at _ _ _ _ _ (by omega), layG_at _ _ _ _ _ (by omega), layG_at _ _ _ _ _ (by omega), if_neg (by omega), if_neg (by omega)]
    by_cases hps : p = s
    · subst hps
      rw [if_pos ⟨rfl, rfl⟩, if_neg (by omega), if_pos ⟨rfl, rfl⟩]
      omega
    · rw [if_neg (by omega), if_neg (by omega), if_neg (by omega), if_neg (by omega)]
      omega
  · rw [g0, g0]
    exact h.ds p q hpq hq
  · rw [g0]
    exact h.nb p hp
  · show 0 ≤ (upd _ _ _ t).toInt
    by_cases e : t = tnx (dG D (s * 5 + 1))
    · subst e
      rw [upd_at, eL]
      omega
    · rw [upd_ne _ _ e]
      exact h.la t ht2
  · show 0 ≤ (upd _ _ _ t).toInt
    by_cases e : t = tnx (dG D (s * 5 + 1))
    · subst e
      rw [upd_at, eS]
      omega
    · rw [upd_ne _ _ e]
      exact h.sw t ht2
  · have co := h.co
    show sm (lcR _ _ _ _ _) 24 + sm (upd _ _ _) 4 + sm (upd _ _ _) 4 = sm (dCu D) 4
    rw [t3, sm_upd ht, sm_upd ht, eL, eS]
    omega
  · have hh := h.hs t ht2
    show hsu (layG _ _ _) t (dSz D) ≤ (upd _ _ _ t).toInt
    rw [hs_ly eH]
    by_cases e : t = tnx (dG D (s * 5 + 1))
    · have e' : dG D (s * 5 + 1) = nI t := by rw [e]; exact hT
      rw [if_pos ⟨hs, e'⟩, e, upd_at, eL]
      rw [e] at hh
      omega
    · have e' : ¬ dG D (s * 5 + 1) = nI t := fun q => e (by rw [q]; exact (nI_clamp (by omega)).symm)
      rw [if_neg (fun q => e' q.2), upd_ne _ _ e]
      omega
