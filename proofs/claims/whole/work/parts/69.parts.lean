/-! THE WHOLE TEXT on both sides; firstError -/
def PA (T : gTxt) (pa : Nat → Int32) (n : Nat) : Prop := ∀ i, i < n → ∃ k m d, k < 4 ∧ 1 ≤ m ∧ m ≤ 500 ∧ d ≤ 999 ∧ xTon T i = nI k ∧ pa (3 * i + 1) = nI k ∧ xCub T i = nI m ∧ pa (3 * i) = nI m ∧ xDay T i = nI d ∧ pa (3 * i + 2) = nI d
theorem Ts_0 {T : gTxt} {s : Nat} (h : xStg T = s) : Ts T s (xT T) (xC T) (xD T) = T := by
  subst h
  rfl
theorem kp_e {T : gTxt} (h : xPrt T < 12) : kp T = (xCod T, xLen T, upd (xTon T) (xPrt T) (xT T), upd (xCub T) (xPrt T) (xC T), upd (xDay T) (xPrt T) (xD T), xPrt T + 1, xStg T, xT T, xC T, xD T) := if_neg (by omega)
theorem parts_r {bf : Nat → Int32} {ty : Nat} (hb : bfOK bf ty) (h60 : ty ≤ 60) : ∀ (N pm sp : Nat) (pa : Nat → Int32) (T : gTxt), sp ≤ ty → 5 * pm ≤ sp → ty < sp + N → xStg T = 0 → xPrt T = pm → (∀ i, i < ty → xCod T i = bf i) → PA T pa pm →
    (¬ (rbL bf ty N pm sp pa).2.2.1 = -1 ∧ WR ty sp T (rbL bf ty N pm sp pa).2.2.1) ∨ ((rbL bf ty N pm sp pa).2.2.1 = -1 ∧ ∃ T', rdR (ty - sp) sp T = (ty, T') ∧ xStg T' = 4 ∧ xPrt (kp T') = (rbL bf ty N pm sp pa).1 ∧ PA (kp T') (rbL bf ty N pm sp pa).2.2.2 (rbL bf ty N pm sp pa).1)
  | 0, pm, sp, pa, T, hs, _, hn, _, _, _, _ => by omega
  | N + 1, pm, sp, pa, T, hs, h5, hn, hst, hpm, hc, hpa => by
    have hp := part_r hb hc hs h60 (xT T) (xC T) (xD T)
    rw [Ts_0 hst] at hp
    unfold rbL
    rcases hp with ⟨e1, e2⟩ | ⟨k, m, n, p, hk, m1, m5, n9, eA, eB, eE, p4, pty, hrd, hstop⟩
    · rw [if_neg e1]
      exact Or.inl ⟨e1, e2⟩
    · have hF : rpF bf ty sp pm pa = upd (upd (upd pa (3 * pm) (nI m)) (3 * pm + 1) (nI k)) (3 * pm + 2) (nI n) := by
        unfold rpF
        rw [eA, eB, eE]
      have hk12 : xPrt (Ts T 4 (nI k) (nI m) (nI n)) < 12 := by
        show xPrt T < 12
        omega
      have hkp := kp_e hk12
      have hPA : PA (kp (Ts T 4 (nI k) (nI m) (nI n))) (rpF bf ty sp pm pa) (pm + 1) := by
        intro i hi
        rw [hF, hkp]
        show ∃ k' m' d', k' < 4 ∧ 1 ≤ m' ∧ m' ≤ 500 ∧ d' ≤ 999 ∧ upd (xTon T) (xPrt T) (nI k) i = nI k' ∧ _ ∧ upd (xCub T) (xPrt T) (nI m) i = nI m' ∧ _ ∧ upd (xDay T) (xPrt T) (nI n) i = nI d' ∧ _
        rw [hpm]
        by_cases e : i = pm
        · subst e
          refine ⟨k, m, n, hk, m1, m5, n9, upd_at _ _ _, ?_, upd_at _ _ _, ?_, upd_at _ _ _, upd_at _ _ _⟩
          · rw [upd_ne _ _ (by omega), upd_at]
          · rw [upd_ne _ _ (by omega), upd_ne _ _ (by omega), upd_at]
        · obtain ⟨k', m', d', a1, a2, a3, a4, a5, a6, a7, a8, a9, a10⟩ := hpa i (by omega)
          refine ⟨k', m', d', a1, a2, a3, a4, (upd_ne _ _ e).trans a5, ?_, (upd_ne _ _ e).trans a7, ?_, (upd_ne _ _ e).trans a9, ?_⟩
          · rw [upd_ne _ _ (by omega), upd_ne _ _ (by omega), upd_ne _ _ (by omega)]; exact a6
          · rw [upd_ne _ _ (by omega), upd_ne _ _ (by omega), upd_ne _ _ (by omega)]; exact a8
          · rw [upd_ne _ _ (by omega), upd_ne _ _ (by omega), upd_ne _ _ (by omega)]; exact a10
      have hkpp : xPrt (kp (Ts T 4 (nI k) (nI m) (nI n))) = pm + 1 := by
        rw [hkp]
        show xPrt T + 1 = _
        rw [hpm]
      rw [eE, if_pos rfl]
      show (¬ (if ty ≤ p then (pm + 1, p, (-1 : Int32), rpF bf ty sp pm pa) else if ltI bf ty p = 59 then rbL bf ty N (pm + 1) (p + 1) (rpF bf ty sp pm pa) else (pm + 1, p + 1, nI p, rpF bf ty sp pm pa)).2.2.1 = -1 ∧ _) ∨ _
      by_cases hpt : ty ≤ p
      · obtain rfl : p = ty := by omega
        rw [if_pos hpt]
        refine Or.inr ⟨rfl, Ts T 4 (nI k) (nI m) (nI n), ?_, rfl, hkpp, hPA⟩
        rw [hrd, Nat.sub_self]
        rfl
      · rw [if_neg hpt]
        have hp' : p < ty := by omega
        have ec : xCod (Ts T 4 (nI k) (nI m) (nI n)) p = bf p := hc p hp'
        rw [ltI_at hp']
        by_cases q : bf p = 59
        · rw [if_pos q]
          have ha : acc (Ts T 4 (nI k) (nI m) (nI n)) (xCod (Ts T 4 (nI k) (nI m) (nI n)) p) = (true, stg0 (kp (Ts T 4 (nI k) (nI m) (nI n)))) := by
            rw [ec, q]
            rfl
          have e2 := hrd.trans (rd_st hp' ha)
          have hcod : ∀ i, i < ty → xCod (stg0 (kp (Ts T 4 (nI k) (nI m) (nI n)))) i = bf i := by
            rw [hkp]
            exact hc
          have ih := parts_r hb h60 N (pm + 1) (p + 1) (rpF bf ty sp pm pa) (stg0 (kp (Ts T 4 (nI k) (nI m) (nI n)))) (by omega) (by omega) (by omega) rfl hkpp hcod hPA
          rcases ih with ⟨i1, i2⟩ | ⟨i1, T', i2, i3⟩
          · exact Or.inl ⟨i1, WR.of e2 i2⟩
          · exact Or.inr ⟨i1, T', e2.trans i2, i3⟩
        · rw [if_neg q]
          refine Or.inl ⟨nI_n1 (by omega), WR.of hrd (WR.bad hp' (T' := Ts T 4 (nI k) (nI m) (nI n)) ?_)⟩
          obtain ⟨c, c1, c2, hcc⟩ := hb p hp'
          have hs' := hstop hp' c hcc c2
          rw [ec]
          show aD (Ts T 4 (nI k) (nI m) (nI n)) (bf p) = _
          unfold aD
          rw [if_neg q, hcc]
          by_cases q1 : 48 ≤ c ∧ c ≤ 57
          · rw [if_neg (fun x => (bI_dig c2).mp x q1)]
            show (if nI n = 0 then _ else if 10 * nI n + nI c - 48 ≤ 999 then _ else _) = _
            by_cases q2 : nI n = 0
            · rw [if_pos q2]
            · rw [if_neg q2, c_v2 q1.1]
              have n0 : ¬ n = 0 := fun x => q2 (by rw [x]; rfl)
              have : ¬ nI (10 * n + (c - 48)) ≤ 999 := mt (c_le (n := 999) (by omega) (by omega)).mp (fun x => hs' ⟨by omega, q1.1, q1.2, x⟩)
              rw [if_neg this]
          · rw [if_pos ((bI_dig c2).mpr q1)]
theorem TxR.bf {T : gTxt} {bf : Nat → Int32} {ty : Nat} (h : TxR T bf ty) : bfOK bf ty := fun i hi => by
  obtain ⟨-, h1, h2⟩ := h.2.2 i hi
  obtain ⟨e1, e2⟩ := iof (x := bf i) (by omega)
  exact ⟨tnx (bf i), by omega, by omega, e1⟩
theorem rdT_e (T : gTxt) : rdT T = rdR (xLen T) 0 (rst T) := rfl
theorem rbT_e (bf : Nat → Int32) (ty : Nat) (pa : Nat → Int32) : rbT bf ty pa = rbL bf ty (ty + 1) 0 0 pa := rfl
theorem text_r {T : gTxt} {bf : Nat → Int32} {ty : Nat} (h : TxR T bf ty) (pa : Nat → Int32) (r : gRb) (hR : rbT bf ty pa = r) :
    (¬ r.2.2.1 = -1 ∧ nI (rdT T).1 = r.2.2.1 ∧ (rsT T).1 = false) ∨ (r.2.2.1 = -1 ∧ (rdT T).1 = ty ∧ (rsT T).1 = true ∧ xPrt (rsT T).2 = r.1 ∧ PA (rsT T).2 r.2.2.2 r.1) := by
  obtain ⟨⟨t1, t2, t3⟩, hlen, hc⟩ := id h
  have hr := parts_r h.bf (by omega) (ty + 1) 0 0 pa (rst T) (Nat.zero_le _) (Nat.zero_le _) (by omega) rfl rfl (fun i hi => (hc i hi).1) (fun i hi => absurd hi (Nat.not_lt_zero _))
  rw [rbT_e] at hR
  rw [hR, Nat.sub_zero] at hr
  have hrd := rdT_e T
  rw [hlen] at hrd
  have ers : rsT T = if (rdT T).1 < xLen T then (false, (rdT T).2) else if xStg (rdT T).2 = 4 then (true, kp (rdT T).2) else (false, (rdT T).2) := rfl
  clear hR
  unfold WR at hr
  rw [Nat.sub_zero, ← hrd] at hr
  rw [ers]
  clear ers hrd
  generalize rdT T = x at hr ⊢
  rw [hlen]
  rcases hr with ⟨e1, p, T', e2, e3, e4, e5⟩ | ⟨e1, T', e2, e3, e4⟩
  · subst e2
    refine Or.inl ⟨e1, e3.symm, ?_⟩
    show (if p < ty then (false, T') else if xStg T' = 4 then (true, kp T') else (false, T')).1 = false
    by_cases q : p < ty
    · rw [if_pos q]
    · rw [if_neg q, if_neg (e5 (by omega))]
  · subst e2
    refine Or.inr ⟨e1, rfl, ?_⟩
    show (if ty < ty then (false, T') else if xStg T' = 4 then (true, kp T') else (false, T')).1 = true ∧ xPrt (if ty < ty then (false, T') else if xStg T' = 4 then (true, kp T') else (false, T')).2 = _ ∧ PA (if ty < ty then (false, T') else if xStg T' = 4 then (true, kp T') else (false, T')).2 _ _
    rw [if_neg (Nat.lt_irrefl _), if_pos e3]
    exact ⟨rfl, e4⟩
theorem TxR.rd {T T' : gTxt} {bf : Nat → Int32} {ty : Nat} (h : TxR T bf ty) (h1 : txOK T') (h2 : xLen T' = xLen T) (h3 : xCod T' = xCod T) : TxR T' bf ty := ⟨h1, h2.trans h.2.1, fun i hi => by rw [h3]; exact h.2.2 i hi⟩
theorem c_firstError (j : Nat) (S : gGS) (M : gMo) (_ : j < 512) (h : Rel j S M) : prV (Rel (j + 1)) S M K_Gs_firstError K_Mo_firstError (fun v => ∃ x : Int32, v = .int x) := by
  have hok := h.go
  have ho := h.2.2.2.2.1
  have hm := h.mono (Nat.le_succ j)
  have hT := h.2.2.2.2.2.2
  obtain ⟨r1, r2, r3, -⟩ := rdT_ok hT.1
  have h60 : mTy M ≤ 60 := by
    have := hT.1.1
    have := hT.2.1
    omega
  obtain ⟨r, hR⟩ : ∃ r, rbT (mBf M) (mTy M) (mPa M) = r := ⟨_, rfl⟩
  have ht := text_r hT (mPa M) r hR
  have hmm := m_firstError S hok
  generalize rdT (sT S) = x at r1 r2 r3 ht hmm
  have hrel : Rel (j + 1) (setT S x.2) (wWr (wSpt (wPm (wPa (wTh M 0) r.2.2.2) r.1) r.2.1) r.2.2.1) := ⟨hm.1, hm.2.1, hm.2.2.1, hm.2.2.2.1, ho, hm.2.2.2.2.2.1, hT.rd r1 r2 r3⟩
  have ev : nI x.1 = feI r (mTy M) := by
    unfold feI
    rcases ht with ⟨e1, e2, -⟩ | ⟨e1, e2, -⟩
    · rw [if_neg e1, e2]
    · rw [if_pos e1, e2]
  rw [ev] at hmm
  exact pv_ok ⟨_, rfl⟩ (by decide) (by decide) hrel.2.1 hmm (gXs_d (n_firstError M r hR h60) ho) (hrel.scr 0)
