/-! WHAT THE CLASS ANSWERS when it stands as the law reckons -/
def RP (j : Nat) (S : gGS) (D : gDom) : Prop := RelD j (sD S) D ∧ sR S < 6 ∧ sN S ≤ 6 ∧ txOK (sT S)
theorem RP.go {j : Nat} {S : gGS} {D : gDom} (h : RP j S D) : gsOK S := by
  obtain ⟨h1, h2, h3, h4⟩ := h
  obtain ⟨d1, -, -⟩ := h1.dm
  exact ⟨d1.1, d1.2.1, d1.2.2, h2, h3, h4⟩
theorem a_tray {j : Nat} {S : gGS} {D : gDom} (h : RP j S D) (a t : Nat) (ha : a < 6) (ht : t < 4) : gM K_Gs_tray { frames := 2, locals := 46, cells := 0, slots := 0 } [.ref 0, .int (nI a), .int (nI t)] (cGs S) (gD (.inl (some (.int (dTr D (a * 4 + t))))) (cGs S)) := by
  obtain ⟨g, eg⟩ := h.1.eq
  have hm := m_tray S h.go a t ha ht
  rw [show dTr (sD S) = dTr D by rw [eg]; rfl] at hm
  exact hm
theorem a_trayA {j : Nat} {S : gGS} {D : gDom} (h : RP j S D) (a : Nat) (ha : a < 6) : gM K_Gs_tray { frames := 2, locals := 46, cells := 0, slots := 0 } [.ref 0, .int (nI a), .int (-1)] (cGs S) (gD (.inl (some (.int (hA (dTr D) a)))) (cGs S)) := by
  obtain ⟨g, eg⟩ := h.1.eq
  have hm := m_tray_all S h.go a ha
  rw [show dTr (sD S) = dTr D by rw [eg]; rfl] at hm
  exact hm
/-- the section that the law keeps at s stands at its rank -/
theorem rk_row {j : Nat} {S : gGS} {D : gDom} (h : RP j S D) {s : Nat} (hs : s < dSz D) : rkN (keyOf (dSt D 2)) (dG D) s (dSz D) < dSz (sD S) ∧ row (dG (sD S)) (rkN (keyOf (dSt D 2)) (dG D) s (dSz D)) = row (dG D) s := by
  obtain ⟨⟨g, e, hp, hso⟩, hDI, -, -⟩ := h.1
  obtain ⟨b1, b2⟩ := ord_row (keyOf_k (dSt D 2)) (od := od0) hp hso hDI.rne
  obtain ⟨p, hpn, e2⟩ := perm_sur b2 hs
  have hrk := rk_ord (keyOf_k (dSt D 2)) hso b1 b2 hpn
  rw [e2] at hrk
  rw [hrk, e]
  refine ⟨hpn, ?_⟩
  rw [← e2]
  exact b1 p hpn
theorem a_sec {j : Nat} {S : gGS} {D : gDom} (h : RP j S D) (s k : Nat) (hs : s < dSz D) (hk : k < 5) : gM K_Gs_sectionOf { frames := 1, locals := 23, cells := 0, slots := 0 } [.ref 0, .int (nI (rkN (keyOf (dSt D 2)) (dG D) s (dSz D))), .int (nI k)] (cGs S) (gD (.inl (some (.int (dG D (s * 5 + k))))) (cGs S)) := by
  obtain ⟨h1, h2⟩ := rk_row h hs
  have hm := m_sectionOf S h.go _ k h1 hk
  rw [row_eq.mp h2 k hk] at hm
  exact hm
theorem a_sec5 {j : Nat} {S : gGS} {D : gDom} (h : RP j S D) (s : Nat) (hs : s < dSz D) : gM K_Gs_sectionOf { frames := 1, locals := 23, cells := 0, slots := 0 } [.ref 0, .int (nI (rkN (keyOf (dSt D 2)) (dG D) s (dSz D))), .int 5] (cGs S) (gD (.inl (some (.int (bI (decide (dG D (s * 5 + 3) < dDy D)))))) (cGs S)) := by
  obtain ⟨h1, h2⟩ := rk_row h hs
  obtain ⟨g, eg⟩ := h.1.eq
  have hm := m_sectionOf_5 S h.go _ h1
  rw [row_eq.mp h2 3 (by omega), show dDy (sD S) = dDy D by rw [eg]; rfl] at hm
  exact hm
theorem a_secn {j : Nat} {S : gGS} {D : gDom} (h : RP j S D) : gM K_Gs_sectionOf { frames := 1, locals := 23, cells := 0, slots := 0 } [.ref 0, .int (nI (dSz D)), .int 0] (cGs S) (gD (.inl (some (.int (-1)))) (cGs S)) := by
  have h10 := h.1.2.1.ok.1
  exact m_sectionOf_n S h.go (nI (dSz D)) 0 (nI_pos (by omega)) (by rw [h.1.dm.2.1]; exact Int32.le_refl _) (by decide) (by decide)
theorem a_cnt {j : Nat} {S : gGS} {D : gDom} (h : RP j S D) (k : Nat) (v : Int32) (hv : (k = 0 ∧ v = dDy D) ∨ (k = 1 ∧ v = nI (dSz D)) ∨ (k = 2 ∧ v = dDn D) ∨ (k = 3 ∧ v = dLt D) ∨ (k = 4 ∧ v = dLd D) ∨ (k = 5 ∧ v = nI (mxc (dTr D) 6)) ∨ (k = 6 ∧ v = nI (emR (dTr D) 6)) ∨ (k = 7 ∧ v = sum4 (dSw D)) ∨ (k = 8 ∧ v = dSo D)) : gM K_Gs_count { frames := 2, locals := 45, cells := 0, slots := 0 } [.ref 0, .int (nI k)] (cGs S) (gD (.inl (some (.int v))) (cGs S)) := by
  obtain ⟨g, eg⟩ := h.1.eq
  have hok := h.go
  have htr := h.1.2.1.tr
  rcases hv with ⟨rfl, rfl⟩ | ⟨rfl, rfl⟩ | ⟨rfl, rfl⟩ | ⟨rfl, rfl⟩ | ⟨rfl, rfl⟩ | ⟨rfl, rfl⟩ | ⟨rfl, rfl⟩ | ⟨rfl, rfl⟩ | ⟨rfl, rfl⟩
  · have hm := m_count_0 S hok
    rw [show dDy (sD S) = dDy D from by rw [eg]; rfl] at hm
    exact hm
  · have hm := m_count_1 S hok
    rw [show nI (dSz (sD S)) = nI (dSz D) from by rw [eg]; rfl] at hm
    exact hm
  · have hm := m_count_2 S hok
    rw [show dDn (sD S) = dDn D from by rw [eg]; rfl] at hm
    exact hm
  · have hm := m_count_3 S hok
    rw [show dLt (sD S) = dLt D from by rw [eg]; rfl] at hm
    exact hm
  · have hm := m_count_4 S hok
    rw [show dLd (sD S) = dLd D from by rw [eg]; rfl] at hm
    exact hm
  · have hm := m_count_5 S hok
    rw [show nI (mxc (dTr (sD S)) 6) = nI (mxc (dTr D) 6) from by rw [eg]; rfl] at hm
    exact hm
  · have hm := m_count_6 S hok
    rw [show nI (emc (dTr (sD S)) 6) = nI (emR (dTr D) 6) from by rw [eg]; exact congrArg nI (emc_r (by decide) htr.ok 6 (Nat.le_refl 6))] at hm
    exact hm
  · have hm := m_count_7 S hok
    rw [show sum4 (dSw (sD S)) = sum4 (dSw D) from by rw [eg]; rfl] at hm
    exact hm
  · have hm := m_count_8 S hok
    rw [show dSo (sD S) = dSo D from by rw [eg]; rfl] at hm
    exact hm
theorem a_tone {j : Nat} {S : gGS} {D : gDom} (h : RP j S D) (t k : Nat) (v : Int32) (ht : t < 4) (hv : (k = 0 ∧ v = dSh D t) ∨ (k = 1 ∧ v = hO (dTr D) t) ∨ (k = 2 ∧ v = rpI (dTr D) t 6) ∨ (k = 3 ∧ v = dCu D t) ∨ (k = 4 ∧ v = dLa D t) ∨ (k = 5 ∧ v = dSw D t) ∨ (k = 6 ∧ v = wtc (dG D) (nI t) (dSz D))) : gM K_Gs_tone { frames := 2, locals := 46, cells := 0, slots := 0 } [.ref 0, .int (nI t), .int (nI k)] (cGs S) (gD (.inl (some (.int v))) (cGs S)) := by
  obtain ⟨g, eg⟩ := h.1.eq
  have hok := h.go
  have htr := h.1.2.1.tr
  rcases hv with ⟨rfl, rfl⟩ | ⟨rfl, rfl⟩ | ⟨rfl, rfl⟩ | ⟨rfl, rfl⟩ | ⟨rfl, rfl⟩ | ⟨rfl, rfl⟩ | ⟨rfl, rfl⟩
  · have hm := m_tone_0 S hok t ht
    rw [show dSh (sD S) t = dSh D t from by rw [eg]; rfl] at hm
    exact hm
  · have hm := m_tone_1 S hok t ht
    rw [show hO (dTr (sD S)) t = hO (dTr D) t from by rw [eg]; rfl] at hm
    exact hm
  · have hm := m_tone_2 S hok t ht
    rw [show rdc (dTr (sD S)) t 6 = rpI (dTr D) t 6 from by rw [eg]; exact rdc_r htr.ok ht 6 (Nat.le_refl 6)] at hm
    exact hm
  · have hm := m_tone_3 S hok t ht
    rw [show dCu (sD S) t = dCu D t from by rw [eg]; rfl] at hm
    exact hm
  · have hm := m_tone_4 S hok t ht
    rw [show dLa (sD S) t = dLa D t from by rw [eg]; rfl] at hm
    exact hm
  · have hm := m_tone_5 S hok t ht
    rw [show dSw (sD S) t = dSw D t from by rw [eg]; rfl] at hm
    exact hm
  · have hm := m_tone_6 S hok t ht
    rw [show wtc (dG (sD S)) (nI t) (dSz (sD S)) = wtc (dG D) (nI t) (dSz D) from wtc_r h.1.1 _] at hm
    exact hm
theorem a_miss {j : Nat} {S : gGS} {D : gDom} (h : RP j S D) (t : Nat) (ht : t < 4) : gM K_Gs_missing { frames := 3, locals := 70, cells := 0, slots := 0 } [.ref 0, .int (nI t)] (cGs S) (gD (.inl (some (.int (lkI D t)))) (cGs S)) := by
  have hm := m_missing S h.go t ht
  rw [ms_r h.1 t] at hm
  exact hm
/-- the share is a number, and alike on both sides -/
theorem share_p {j : Nat} (hj : j < 512) {DC D : gDom} (h : RelD j DC D) : lshV DC = shV D ∧ (¬ sum4 (dCu DC) < 1 → vf_n64 (FP.ddiv (FP.i2d (sum4 (dLa DC))) (FP.i2d (sum4 (dCu DC))))) ∧ (¬ sum4 (dCu D) = 0 → vf_n64 (FP.ddiv (FP.i2d (sum4 (dLa D))) (FP.i2d (sum4 (dCu D))))) ∧ FP.Core.val64 (shV D) ≠ .nan := by
  obtain ⟨g, eg⟩ := h.eq
  obtain ⟨-, hDI, -, -⟩ := h
  obtain ⟨b1, b2, b3, b4, -⟩ := hDI.big
  have hco := hDI.co
  have eC : (sum4 (dCu D)).toInt = sm (dCu D) 4 := sum4_i (fun t ht => (hDI.cu t ht).1) (by omega)
  have eL : (sum4 (dLa D)).toInt = sm (dLa D) 4 := sum4_i hDI.la (by omega)
  have dC1 : dCu DC = dCu D := by rw [eg]; rfl
  have dL1 : dLa DC = dLa D := by rw [eg]; rfl
  have hc0 : 0 ≤ (sum4 (dCu D)).toInt := by omega
  have hl0 : 0 ≤ (sum4 (dLa D)).toInt := by omega
  have hlc : (sum4 (dLa D)).toInt ≤ (sum4 (dCu D)).toInt := by omega
  have hc9 : (sum4 (dCu D)).toInt ≤ 2000000 := by omega
  unfold lshV shV
  rw [dC1, dL1]
  generalize sum4 (dCu D) = cu at hc0 hlc hc9 ⊢
  generalize sum4 (dLa D) = la at hl0 hlc ⊢
  by_cases hz : cu = 0
  · have hlt : cu < 1 := by rw [hz]; decide
    rw [if_pos hlt, if_pos hz]
    exact ⟨rfl, fun q => absurd hlt q, fun q => absurd hz q, by rw [val_one]; exact FP.Core.Datum.noConfusion⟩
  · have hcp : 0 < cu.toInt := by
      have : ¬ cu.toInt = 0 := fun q => hz (ieq.mpr (by rw [q, i0]))
      omega
    have hnl : ¬ cu < 1 := by
      rw [ilt, show (1 : Int32).toInt = 1 from rfl]
      omega
    rw [if_neg hnl, if_neg hz]
    by_cases hl : la = 0
    · have e0 := share_0 hcp
      rw [hl, e0]
      exact ⟨rfl, fun _ => z_n64, fun _ => z_n64, by rw [val_zero]; exact FP.Core.Datum.noConfusion⟩
    · have hlp : 0 < la.toInt := by
        have : ¬ la.toInt = 0 := fun q => hl (ieq.mpr (by rw [q, i0]))
        omega
      obtain ⟨k, c, hk, hn⟩ := share_n (A := la.toInt.natAbs) (B := cu.toInt.natAbs) (by omega) (by omega) (by omega) (quo_r hcp hlp)
      exact ⟨rfl, fun _ => hn.n64, fun _ => hn.n64, by rw [hn.1]; exact FP.Core.Datum.noConfusion⟩
theorem a_share {j : Nat} (hj : j < 512) {S : gGS} {D : gDom} (h : RP j S D) : gM K_Gs_laidShare { frames := 1, locals := 25, cells := 0, slots := 0 } [.ref 0] (cGs S) (gD (.inl (some (.double (shV D)))) (cGs S)) := by
  obtain ⟨e, q, -, -⟩ := share_p hj h.1
  have hm := m_laidShare S h.go q
  rw [e] at hm
  exact hm
theorem cmp_self {x : UInt64} (h : FP.Core.val64 x ≠ .nan) : Op.cmpValue (FP.dcmp x x) .l = 0 := by
  have e : FP.dcmp x x = some .eq := FP.Core.dcmp_self h
  rw [e]
  rfl
/-! gold adds up, tone by tone -/
def ts (f : Nat → Int32) (t : Nat) : Int := (f (0 * 4 + t)).toInt + (f (1 * 4 + t)).toInt + (f (2 * 4 + t)).toInt + (f (3 * 4 + t)).toInt + (f (4 * 4 + t)).toInt + (f (5 * 4 + t)).toInt
def TI (D : gDom) : Prop := ∀ t, t < 4 → ts (dTr D) t + (dSw D t).toInt + (dLa D t).toInt = (dCu D t).toInt
theorem hO_t {f : Nat → Int32} (h : trI f) {t : Nat} (ht : t < 4) : (hO f t).toInt = ts f t ∧ 0 ≤ ts f t ∧ ts f t ≤ 3000 := by
  have c0 := h.cell (show 0 < 6 by omega) ht
  have c1 := h.cell (show 1 < 6 by omega) ht
  have c2 := h.cell (show 2 < 6 by omega) ht
  have c3 := h.cell (show 3 < 6 by omega) ht
  have c4 := h.cell (show 4 < 6 by omega) ht
  have c5 := h.cell (show 5 < 6 by omega) ht
  unfold hO ts
  have e0 : (0 + f (0 * 4 + t)).toInt = (f (0 * 4 + t)).toInt := by rw [Int32.zero_add]
  have e1 : (0 + f (0 * 4 + t) + f (1 * 4 + t)).toInt = (f (0 * 4 + t)).toInt + (f (1 * 4 + t)).toInt := by rw [ia (by omega) (by omega), e0]
  have e2 : (0 + f (0 * 4 + t) + f (1 * 4 + t) + f (2 * 4 + t)).toInt = (f (0 * 4 + t)).toInt + (f (1 * 4 + t)).toInt + (f (2 * 4 + t)).toInt := by rw [ia (by omega) (by omega), e1]
  have e3 : (0 + f (0 * 4 + t) + f (1 * 4 + t) + f (2 * 4 + t) + f (3 * 4 + t)).toInt = (f (0 * 4 + t)).toInt + (f (1 * 4 + t)).toInt + (f (2 * 4 + t)).toInt + (f (3 * 4 + t)).toInt := by rw [ia (by omega) (by omega), e2]
  have e4 : (0 + f (0 * 4 + t) + f (1 * 4 + t) + f (2 * 4 + t) + f (3 * 4 + t) + f (4 * 4 + t)).toInt = (f (0 * 4 + t)).toInt + (f (1 * 4 + t)).toInt + (f (2 * 4 + t)).toInt + (f (3 * 4 + t)).toInt + (f (4 * 4 + t)).toInt := by rw [ia (by omega) (by omega), e3]
  refine ⟨?_, by omega, by omega⟩
  rw [ia (by omega) (by omega), e4]
theorem TI.eq {j : Nat} (hj : j ≤ 600) {D : gDom} (h : TI D) (hD : DI j D) {t : Nat} (ht : t < 4) : dCu D t = hO (dTr D) t + dSw D t + dLa D t := by
  obtain ⟨e, h0, h3⟩ := hO_t hD.tr ht
  have hs := hD.sw t ht
  have hl := hD.la t ht
  have hb := hD.big.2.2.2.2 t ht
  have hT := h t ht
  have e1 : (hO (dTr D) t + dSw D t).toInt = (hO (dTr D) t).toInt + (dSw D t).toInt := ia (by omega) (by omega)
  refine ieq.mpr ?_
  rw [ia (by omega) (by omega), e1]
  omega
/-- what sections of a tone still need -/
def ndR (D : gDom) (t : Nat) : Nat → Int32
  | 0 => 0
  | i + 1 => if dG D (i * 5 + 1) = nI t then ndR D t i + nI (tkN (tnx (dSt D 5)) (tnx (dG D (i * 5 + 2)))) else ndR D t i
theorem lkR_nd (D : gDom) (t : Nat) : ∀ i, lkR D t i = -(hO (dTr D) t) - dSh D t * dSt D 0 + ndR D t i
  | 0 => (Int32.add_zero _).symm
  | i + 1 => by
    show (if dG D (i * 5 + 1) = nI t then lkR D t i + nI (tkN (tnx (dSt D 5)) (tnx (dG D (i * 5 + 2)))) else lkR D t i) = -(hO (dTr D) t) - dSh D t * dSt D 0 + (if dG D (i * 5 + 1) = nI t then ndR D t i + nI (tkN (tnx (dSt D 5)) (tnx (dG D (i * 5 + 2)))) else ndR D t i)
    rw [lkR_nd D t i]
    split
    · rw [Int32.add_assoc]
    · rfl
theorem ndR_b {D : gDom} (h : rOK D) (hw : ∀ p, p < dSz D → 1 ≤ tnx (dG D (p * 5 + 2))) (t : Nat) : ∀ i, i ≤ dSz D → ∃ N, N ≤ 1000 * i ∧ ndR D t i = nI N
  | 0, _ => ⟨0, Nat.le_refl _, rfl⟩
  | i + 1, hi => by
    obtain ⟨N, h1, h2⟩ := ndR_b h hw t i (by omega)
    obtain ⟨-, -, hc⟩ := h.2.1 i (by omega)
    have hk := tkN_le (q := tnx (dSt D 5)) (hw i (by omega))
    unfold ndR
    by_cases c : dG D (i * 5 + 1) = nI t
    · rw [if_pos c]
      exact ⟨N + tkN (tnx (dSt D 5)) (tnx (dG D (i * 5 + 2))), by omega, by rw [h2]; exact gadd rfl rfl⟩
    · rw [if_neg c]
      exact ⟨N, by omega, h2⟩
theorem miss_n {K C V N : Nat} (hV : 1 ≤ V) (hK : K ≤ 3000) (hC : C ≤ 999) (hV2 : V ≤ 200) (hN : N ≤ 10000) {x : Int32} (hx : x = -(nI K) - nI C * nI V + nI N) {m : Int32} (hm : m = if x ≤ 0 then 0 else (x + nI V - 1) / nI V) : ¬ m < 0 ∧ ¬ nI K + (nI C + m) * nI V < nI N ∧ (¬ m = 0 → ¬ nI N ≤ nI K + (nI C + m - 1) * nI V) := by
  obtain ⟨P, hP⟩ : ∃ P, P = C * V := ⟨_, rfl⟩
  have hP2 : P ≤ 199800 := by rw [hP]; exact Nat.mul_le_mul hC hV2
  have eP : nI C * nI V = nI P := by rw [gmul rfl rfl, hP]
  have xi : x.toInt = (N : Int) - K - P := by
    rw [hx, eP]
    have a1 : (-(nI K)).toInt = -(K : Int) := by rw [i_neg (by rw [iN (by omega)]; omega) (by rw [iN (by omega)]; omega), iN (by omega)]
    have a2 : (-(nI K) - nI P).toInt = -(K : Int) - P := by rw [is (by rw [a1, iN (by omega)]; omega) (by rw [a1, iN (by omega)]; omega), a1, iN (by omega)]
    rw [ia (by rw [a2, iN (by omega)]; omega) (by rw [a2, iN (by omega)]; omega), a2, iN (by omega)]
    omega
  by_cases c : x ≤ 0
  · rw [if_pos c] at hm
    subst hm
    have c' := ile.mp c
    rw [i0, xi] at c'
    refine ⟨by decide, ?_, fun q => absurd rfl q⟩
    rw [Int32.add_zero, eP, gadd rfl rfl, glt rfl rfl (by omega) (by omega)]
    omega
  · rw [if_neg c] at hm
    have c' := mt ile.mpr c
    rw [i0, xi] at c'
    obtain ⟨L, hL, hL2⟩ : ∃ L : Nat, x = nI L ∧ N = K + P + L := by
      obtain ⟨e1, e2⟩ := iof (x := x) (by omega)
      exact ⟨tnx x, e1, by omega⟩
    have em : m = nI ((L + V - 1) / V) := by
      rw [hm, hL, gadd rfl rfl, show nI (L + V) - 1 = nI (L + V - 1) from gsub rfl (gk 1) (by omega), pk_div (by omega) (by omega) (by omega)]
    obtain ⟨M, hM⟩ : ∃ M, M = (L + V - 1) / V := ⟨_, rfl⟩
    obtain ⟨Q, hQ⟩ : ∃ Q, Q = M * V := ⟨_, rfl⟩
    have q1 : Q ≤ L + V - 1 := by rw [hQ, hM]; exact Nat.div_mul_le_self _ _
    have q2 : L + V - 1 < Q + V := by
      have := Nat.lt_mul_div_succ (L + V - 1) (show 0 < V by omega)
      rw [← hM, Nat.mul_comm, Nat.add_mul, Nat.one_mul, ← hQ] at this
      exact this
    have hM0 : M ≤ Q := by rw [hQ]; exact Nat.le_mul_of_pos_right _ (by omega)
    rw [← hM] at em
    subst em
    have e1 : (nI C + nI M) * nI V = nI (P + Q) := by rw [gadd rfl rfl, gmul rfl rfl, Nat.add_mul, ← hP, ← hQ]
    refine ⟨nI_pos (by omega), ?_, fun q => ?_⟩
    · rw [e1, gadd rfl rfl, glt rfl rfl (by omega) (by omega)]
      omega
    · have hM1 : 1 ≤ M := by
        refine Nat.pos_of_ne_zero fun z => q ?_
        rw [z]
        rfl
      obtain ⟨M', rfl⟩ : ∃ M', M = M' + 1 := ⟨M - 1, by omega⟩
      rw [Nat.add_mul, Nat.one_mul] at hQ
      have e2 : (nI C + nI (M' + 1) - 1) * nI V = nI (P + (Q - V)) := by
        rw [gadd rfl rfl, show nI (C + (M' + 1)) - 1 = nI (C + M') from gsub1 rfl, gmul rfl rfl, Nat.add_mul, ← hP, hQ, Nat.add_sub_cancel]
      rw [e2, gadd rfl rfl, gle rfl rfl (by omega) (by omega)]
      omega
/-- the sheets that lack are the least that are enough -/
theorem miss_r {j : Nat} {DC D : gDom} (h : RelD j DC D) {t : Nat} (ht : t < 4) : ¬ lkI D t < 0 ∧ ¬ hO (dTr D) t + (dSh D t + lkI D t) * dSt D 0 < ndR D t (dSz D) ∧ (¬ lkI D t = 0 → ¬ ndR D t (dSz D) ≤ hO (dTr D) t + (dSh D t + lkI D t - 1) * dSt D 0) := by
  have hrs := h.rs
  have hDI := h.2.1
  have hst := hDI.st
  unfold stE at hst
  have hsh := hDI.sh t ht
  have h10 := hDI.ok.1
  obtain ⟨e, k0, k3⟩ := hO_t hDI.tr ht
  obtain ⟨N, hN, eN⟩ := ndR_b hrs.1 hrs.2.1 t (dSz D) (Nat.le_refl _)
  obtain ⟨a1, a2⟩ := iof (x := hO (dTr D) t) (by omega)
  obtain ⟨b1, b2⟩ := iof (x := dSh D t) (by omega)
  obtain ⟨c1, c2⟩ := iof (x := dSt D 0) (by omega)
  have hl : lkI D t = if lkR D t (dSz D) ≤ 0 then 0 else (lkR D t (dSz D) + dSt D 0 - 1) / dSt D 0 := rfl
  have hx := lkR_nd D t (dSz D)
  generalize lkR D t (dSz D) = x at hx hl
  generalize lkI D t = m at hl ⊢
  rw [eN] at hx ⊢
  generalize tnx (hO (dTr D) t) = K at a1 a2
  generalize tnx (dSh D t) = C at b1 b2
  generalize tnx (dSt D 0) = V at c1 c2
  rw [a1, b1, c1] at hx ⊢
  rw [c1] at hl
  exact miss_n (by omega) (by omega) (by omega) (by omega) (by omega) hx hl
/-- sums as the law makes them -/
def s4 (f : Nat → Int32) : Nat → Int32
  | 0 => 0
  | i + 1 => s4 f i + f i
theorem s4_e (f : Nat → Int32) : s4 f 4 = sum4 f := rfl
