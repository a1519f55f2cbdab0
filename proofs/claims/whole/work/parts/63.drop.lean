/-! THE MOVE drop: the place on one side, the row on the other -/
theorem plc_s (g : Nat → Int32) (x : Int32) : ∀ n i, i + n < 2 ^ 31 → (plc g x n i = -1 ∧ ∀ p, i ≤ p → p < i + n → ¬ g (p * 5 + 0) = x) ∨ ∃ p, i ≤ p ∧ p < i + n ∧ plc g x n i = nI p ∧ g (p * 5 + 0) = x
  | 0, i, _ => Or.inl ⟨rfl, fun p h1 h2 => absurd h1 (by omega)⟩
  | n + 1, i, hn => by
    unfold plc
    by_cases hc : g (i * 5 + 0) = x
    · rw [if_pos hc]
      exact Or.inr ⟨i, Nat.le_refl i, by omega, rfl, hc⟩
    · rw [if_neg hc]
      rcases plc_s g x n (i + 1) (by omega) with ⟨h1, h2⟩ | ⟨p, h1, h2, h3, h4⟩
      · refine Or.inl ⟨h1, fun p hp1 hp2 => ?_⟩
        by_cases e : p = i
        · subst e; exact hc
        · exact h2 p (by omega) (by omega)
      · exact Or.inr ⟨p, by omega, by omega, h3, h4⟩
theorem plL_s (g : Nat → Int32) (x : Int32) : ∀ n, n < 2 ^ 31 → (plL g x n = -1 ∧ ∀ p, p < n → ¬ g (p * 5 + 0) = x) ∨ ∃ p, p < n ∧ plL g x n = nI p ∧ g (p * 5 + 0) = x
  | 0, _ => Or.inl ⟨rfl, fun p h => absurd h (Nat.not_lt_zero _)⟩
  | n + 1, hn => by
    unfold plL
    by_cases hc : g (n * 5 + 0) = x
    · rw [if_pos hc]
      exact Or.inr ⟨n, by omega, rfl, hc⟩
    · rw [if_neg hc]
      rcases plL_s g x n (by omega) with ⟨h1, h2⟩ | ⟨p, h1, h2, h3⟩
      · refine Or.inl ⟨h1, fun p hp => ?_⟩
        by_cases e : p = n
        · subst e; exact hc
        · exact h2 p (by omega)
      · exact Or.inr ⟨p, by omega, h2, h3⟩
theorem nI_n1 {n : Nat} (h : n < 2 ^ 31) : ¬ nI n = -1 := by
  intro q
  have := ieq.mp q
  rw [iN (by omega), show (-1 : Int32).toInt = -1 from rfl] at this
  omega
/-- a number's place and row -/
theorem place_r {j : Nat} {DC D : gDom} (h : RelD j DC D) (x : Int32) :
    (plc (dG DC) x (dSz DC) 0 = -1 ∧ plL (dG D) x (dSz D) = -1) ∨ ∃ p q, p < dSz D ∧ q < dSz D ∧ plc (dG DC) x (dSz DC) 0 = nI p ∧ plL (dG D) x (dSz D) = nI q ∧ row (dG DC) p = row (dG D) q ∧ dG D (q * 5 + 0) = x := by
  obtain ⟨⟨g, rfl, hp, -⟩, hDI, -, -⟩ := h
  have h10 := hDI.ok.1
  show (plc g x (dSz D) 0 = -1 ∧ _) ∨ ∃ p q, _ ∧ _ ∧ plc g x (dSz D) 0 = nI p ∧ _ ∧ row g p = _ ∧ _
  rcases plc_s g x (dSz D) 0 (by omega) with ⟨h1, h2⟩ | ⟨p, -, h2, h3, h4⟩
  · rcases plL_s (dG D) x (dSz D) (by omega) with ⟨k1, k2⟩ | ⟨q, k1, k2, k3⟩
    · exact Or.inl ⟨h1, k1⟩
    · obtain ⟨p, hpn, e⟩ := rows_of (hp.mem_iff.mpr (rows_mem k1))
      exact absurd ((row_eq.mp e 0 (by omega)).symm.trans k3) (h2 p (Nat.zero_le _) (by omega))
  · obtain ⟨q0, hq0, e⟩ := rows_of (hp.mem_iff.mp (rows_mem (show p < dSz D by omega)))
    have e0 : dG D (q0 * 5 + 0) = x := (row_eq.mp e 0 (by omega)).symm.trans h4
    rcases plL_s (dG D) x (dSz D) (by omega) with ⟨k1, k2⟩ | ⟨q, k1, k2, k3⟩
    · exact absurd e0 (k2 q0 hq0)
    · have hqq : q = q0 := by
        rcases Nat.lt_trichotomy q q0 with l | l | l
        · have := hDI.ds q q0 l hq0
          rw [k3, e0] at this
          omega
        · exact l
        · have := hDI.ds q0 q l k1
          rw [k3, e0] at this
          omega
      subst hqq
      exact Or.inr ⟨p, q, by omega, k1, h3, k2, e, k3⟩
/-- the reference's dome when its row q is dropped -/
def drR (D : gDom) (q t : Nat) : gDom := toD (dTr D, dG D, dSz D, dC D, dSt D, dSh D, dCu D, upd (dLa D) t (dLa D t - dG D (q * 5 + 4)), upd (dSw D) t (dSw D t + dG D (q * 5 + 4)), dDy D, dDn D, dLt D, dLd D, dSo D) q (dSz D - 1)
theorem hsu_0 {g : Nat → Int32} {t : Nat} : ∀ {n : Nat}, (∀ p, p < n → 0 ≤ (g (p * 5 + 4)).toInt) → 0 ≤ hsu g t n
  | 0, _ => Int.le_refl 0
  | n + 1, h => by
    have h1 := hsu_0 (t := t) (n := n) (fun p hp => h p (by omega))
    have h2 := h n (by omega)
    unfold hsu
    split <;> omega
theorem DI.dr {j : Nat} (hj : j ≤ 600) {D : gDom} {q t : Nat} (h : DI j D) (hq : q < dSz D) (ht : t < 4) (hT : dG D (q * 5 + 1) = nI t) : DI j (drR D q t) := by
  have hrow := row_to (g := dG D) hq
  have g := fun p (hp : p < dSz D - 1) => row_eq.mp (hrow p hp)
  have hlt : ∀ p, p < dSz D - 1 → (if q ≤ p then p + 1 else p) < dSz D := fun p hp => by split <;> omega
  have hre := h.rw q hq
  unfold rowE at hre
  have big := h.big.2.2.2.2 t ht
  have hk := fun t => (hsu_to (t := t) hq hrow (dSz D - 1) (Nat.le_refl _)).2 (by omega)
  rw [show dSz D - 1 + 1 = dSz D by omega] at hk
  have hnn : ∀ t, 0 ≤ hsu (toF (dG D) (5 * q) (5 * (dSz D - 1) - 5 * q)) t (dSz D - 1) := fun t => hsu_0 fun p hp => by
    rw [g p hp 4 (by omega)]
    exact (h.rw _ (hlt p hp)).2.2.1
  have hh := h.hs t ht
  have hkt := hk t
  rw [if_pos hT] at hkt
  have hnt := hnn t
  have hsw := h.sw t ht
  have eL : (dLa D t - dG D (q * 5 + 4)).toInt = (dLa D t).toInt - (dG D (q * 5 + 4)).toInt := is (by omega) (by omega)
  have eS : (dSw D t + dG D (q * 5 + 4)).toInt = (dSw D t).toInt + (dG D (q * 5 + 4)).toInt := ia (by omega) (by omega)
  have hdn := h.dn
  refine ⟨rOK_to (D := (dTr D, dG D, dSz D, dC D, dSt D, dSh D, dCu D, upd (dLa D) t (dLa D t - dG D (q * 5 + 4)), upd (dSw D) t (dSw D t + dG D (q * 5 + 4)), dDy D, dDn D, dLt D, dLd D, dSo D)) h.ok hq, h.st, h.tr, fun p hp => ?_, fun p r hpr hr => ?_, fun p hp => ?_, h.sh, h.cu, fun u hu => ?_, fun u hu => ?_, ?_, fun u hu => ?_, h.cn, ?_, h.ld, h.dy⟩
  · have hp' : p < dSz D - 1 := hp
    have := h.rw _ (hlt p hp')
    unfold rowE at this ⊢
    have k := g p hp'
    show 0 ≤ (toF _ _ _ _).toInt ∧ (toF _ _ _ _).toInt ≤ 999 ∧ 0 ≤ (toF _ _ _ _).toInt ∧ 0 ≤ (toF _ _ _ _).toInt ∧ (toF _ _ _ _).toInt + (toF _ _ _ _).toInt ≤ 500
    rw [k 2 (by omega), k 3 (by omega), k 4 (by omega)]
    exact this
  · have hr' : r < dSz D - 1 := hr
    show (toF _ _ _ _).toInt < (toF _ _ _ _).toInt
    rw [g p (by omega) 0 (by omega), g r hr' 0 (by omega)]
    refine h.ds _ _ ?_ (hlt r hr')
    split <;> split <;> omega
  · have hp' : p < dSz D - 1 := hp
    show 0 ≤ (toF _ _ _ _).toInt ∧ (toF _ _ _ _).toInt < _
    rw [g p hp' 0 (by omega)]
    exact h.nb _ (hlt p hp')
  · show 0 ≤ (upd _ _ _ u).toInt
    by_cases e : u = t
    · subst e
      rw [upd_at, eL]
      omega
    · rw [upd_ne _ _ e]
      exact h.la u hu
  · show 0 ≤ (upd _ _ _ u).toInt
    by_cases e : u = t
    · subst e
      rw [upd_at, eS]
      omega
    · rw [upd_ne _ _ e]
      exact h.sw u hu
  · have co := h.co
    show sm (dTr D) 24 + sm (upd _ _ _) 4 + sm (upd _ _ _) 4 = sm (dCu D) 4
    rw [sm_upd ht, sm_upd ht, eL, eS]
    omega
  · have hhu := h.hs u hu
    have hku := hk u
    show hsu (toF (dG D) (5 * q) (5 * (dSz D - 1) - 5 * q)) u (dSz D - 1) ≤ (upd _ _ _ u).toInt
    by_cases e : u = t
    · subst e
      rw [upd_at, eL]
      omega
    · rw [upd_ne _ _ e]
      have : ¬ dG D (q * 5 + 1) = nI u := fun x => e (by
        have := (nI_eq (a := u) (b := t) (by omega) (by omega)).mp (x.symm.trans hT)
        exact this)
      rw [if_neg this] at hku
      omega
  · show 0 ≤ (dDn D).toInt ∧ (dDn D).toInt + ((dSz D - 1 : Nat) : Int) ≤ (dC D).toInt
    omega
theorem er_p {α : Type} : ∀ (l : List α) (p : Nat) (x : α), l[p]? = some x → (x :: l.eraseIdx p).Perm l
  | [], _, _, h => nomatch h
  | y :: l, 0, x, h => by
    have : y = x := Option.some.inj h
    subst this
    exact List.Perm.refl _
  | y :: l, p + 1, x, h => (List.Perm.swap y x _).trans ((er_p l p x h).cons y)
theorem drop_r {j : Nat} (hj : j ≤ 600) {DC D : gDom} (h : RelD j DC D) {p q t : Nat} (hp : p < dSz D) (hq : q < dSz D) (ht : t < 4) (hT : dG D (q * 5 + 1) = nI t) (hrow : row (dG DC) p = row (dG D) q) : RelD j (drpD DC p) (drR D q t) := by
  obtain ⟨⟨g, rfl, hpm, hs⟩, hDI, hz, hy⟩ := h
  have hrow : row g p = row (dG D) q := hrow
  have e1 : g (p * 5 + 1) = dG D (q * 5 + 1) := row_eq.mp hrow 1 (by omega)
  have e4 : g (p * 5 + 4) = dG D (q * 5 + 4) := row_eq.mp hrow 4 (by omega)
  have hd := hDI.dr hj hq ht hT
  have kk : tnx (g (p * 5 + 1)) = t := by rw [e1, hT]; exact nI_clamp (by omega)
  have er : rows (rmO g p (dSz D - 1 - p)) (dSz D - 1) = (rows g (dSz D)).eraseIdx p := rows_er hp (row_rm hp)
  have eR : rows (toF (dG D) (5 * q) (5 * (dSz D - 1) - 5 * q)) (dSz D - 1) = (rows (dG D) (dSz D)).eraseIdx q := rows_er hq (row_to hq)
  have pick : ∀ (g : Nat → Int32) (n p : Nat), p < n → (row g p :: (rows g n).eraseIdx p).Perm (rows g n) := fun g n p hp => er_p _ _ _ (rows_at hp)
  refine ⟨⟨rmO g p (dSz D - 1 - p), ?_, ?_, ?_⟩, hd, fun r hr => ?_, hy⟩
  · unfold drpD
    show (dTr D, rmO g p (dSz D - 1 - p), dSz D - 1, dC D, dSt D, dSh D, dCu D, upd (dLa D) (tnx (g (p * 5 + 1))) (dLa D (tnx (g (p * 5 + 1))) + -(g (p * 5 + 4))), upd (dSw D) (tnx (g (p * 5 + 1))) (dSw D (tnx (g (p * 5 + 1))) + g (p * 5 + 4)), D.2.2.2.2.2.2.2.2.2) = _
    rw [kk, e4, ← Int32.sub_eq_add_neg]
    rfl
  · show (rows _ (dSz D - 1)).Perm (rows (toF (dG D) (5 * q) (5 * (dSz D - 1) - 5 * q)) (dSz D - 1))
    rw [er, eR]
    have := ((pick g (dSz D) p hp).trans hpm).trans (pick (dG D) (dSz D) q hq).symm
    rw [hrow] at this
    exact (List.perm_cons _).mp this
  · show (rows _ (dSz D - 1)).Pairwise (rlt (keyOf (dSt D 2)))
    rw [er]
    exact hs.sublist (List.eraseIdx_sublist _ _)
  · have hr' : r < dSz D - 1 := hr
    show ¬ toF (dG D) (5 * q) (5 * (dSz D - 1) - 5 * q) (r * 5 + 2) = 0
    rw [row_eq.mp (row_to hq r hr') 2 (by omega)]
    exact hz _ (by split <;> omega)
theorem c_drop (j : Nat) (S : gGS) (M : gMo) (o : Nat → Int64) (a0 : Int32) (hj : j < 512) (h : Rel j S M) : prP (Rel (j + 1)) S M o K_Lw_drop K_Mo_drop [.int a0] := by
  have hok := h.go
  have hr := h.2.1
  have hn := h.2.2.2.1
  have ho := h.2.2.2.2.1
  have sc := (h.mono (Nat.le_succ j)).scr
  have esz := h.1.dm.2.1
  have hrk := h.1.2.1.ok
  rcases place_r h.1 a0 with ⟨h1, h2⟩ | ⟨p, q, hp, hq, h1, h2, hrow, hx⟩
  · exact pr_x (by decide) (by decide) hr ho (w_drop_x1 _ S S o (by decide) hr hr (m_drop_x S hok _ h1)) (n_drop_x M _ hrk.1 h2) (sc 1)
  · obtain ⟨⟨hT, ht⟩, -⟩ := hrk.2.1 q hq
    have hd := drop_r (by omega) (h.1.mono (Nat.le_succ j)) hp hq ht hT hrow
    have hm := m_drop S hok a0 p (by rw [esz]; exact hp) h1
    rw [row_eq.mp hrow 4 (by omega)] at hm
    have hmv := h.move hd
    exact pr_ok (by decide) hmv.2.1 (w_drop _ S _ o (by decide) hr hmv.2.1 _ hm) (gXs_d (n_drop M hn a0 q _ hrk.1 hq h2 hT ht) ho) rfl (hmv.scr 0)
