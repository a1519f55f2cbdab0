/-! ONE PART of the text, put together; the parts one behind the other -/
theorem pt_D {bf : Nat → Int32} {ty : Nat} (hb : bfOK bf ty) {T : gTxt} (hc : ∀ i, i < ty → xCod T i = bf i) {p : Nat} (hp : p ≤ ty) (t c d : Int32) : (decide (ltI bf ty p = 64) = false ∧ WR ty p (Ts T 2 t c d) (nI p)) ∨ (decide (ltI bf ty p = 64) = true ∧ p < ty ∧ rdR (ty - p) p (Ts T 2 t c d) = rdR (ty - (p + 1)) (p + 1) (Ts T 3 t c d)) := by
  by_cases hsp : p < ty
  · have ec : xCod (Ts T 2 t c d) p = bf p := hc p hsp
    rw [ltI_at hsp]
    by_cases q : bf p = 64
    · refine Or.inr ⟨decide_eq_true q, hsp, rd_st hsp ?_⟩
      rw [ec, q]
      rfl
    · refine Or.inl ⟨decide_eq_false q, WR.bad hsp (T' := Ts T 2 t c d) ?_⟩
      rw [ec]
      show aA (Ts T 2 t c d) (bf p) = _
      unfold aA
      rw [if_neg q]
  · have e : ltI bf ty p = -1 := if_pos (by omega)
    rw [e]
    exact Or.inl ⟨by decide, WR.end_ (by omega) (show ¬ (2 : Nat) = 4 by decide)⟩
theorem pt_E {bf : Nat → Int32} {ty : Nat} (hb : bfOK bf ty) {T : gTxt} (hc : ∀ i, i < ty → xCod T i = bf i) {p : Nat} (hp : p ≤ ty) (h60 : ty ≤ 60) (t c d : Int32) : (∃ v q, nmR bf ty 0 999 p (-1) = (v, q, nI p) ∧ WR ty p (Ts T 3 t c d) (nI p)) ∨ ∃ m' p', nmR bf ty 0 999 p (-1) = (nI m', p', -1) ∧ p + 1 ≤ p' ∧ p' ≤ ty ∧ m' ≤ 999 ∧ rdR (ty - p) p (Ts T 3 t c d) = rdR (ty - p') p' (Ts T 4 t c (nI m')) ∧ (p' < ty → ∀ k, bf p' = nI k → k ≤ 126 → ¬ (1 ≤ m' ∧ 48 ≤ k ∧ k ≤ 57 ∧ 10 * m' + (k - 48) ≤ 999)) := by
  unfold nmR
  rw [if_pos rfl]
  by_cases hsp : p < ty
  · obtain ⟨k, k1, k2, hk⟩ := hb p hsp
    have ec : xCod (Ts T 3 t c d) p = nI k := (hc p hsp).trans hk
    rw [ltI_at hsp, hk]
    by_cases q : 48 ≤ k ∧ k ≤ 57
    · rw [if_neg (fun x => (c_d k1 k2).mp x q), c_s48 q.1]
      obtain ⟨m', p', e1, e2, e3, e5, e6, e7⟩ := rd_4 hb hc t c (ty - (p + 1)) (p + 1) (k - 48) (by omega) (by omega)
      refine Or.inr ⟨m', p', by rw [e1], e2, e3, e5, ?_, e7⟩
      have ha : acc (Ts T 3 t c d) (xCod (Ts T 3 t c d) p) = (true, Ts T 4 t c (nI (k - 48))) := by
        rw [ec]
        show aE (Ts T 3 t c d) (nI k) = _
        unfold aE
        rw [if_neg (fun x => (bI_dig k2).mp x q)]
        show (true, (xCod T, xLen T, xTon T, xCub T, xDay T, xPrt T, 4, t, c, nI k - 48)) = _
        rw [c_s48 q.1]
        rfl
      exact (rd_st hsp ha).trans e6
    · rw [if_pos ((c_d k1 k2).mpr q)]
      refine Or.inl ⟨_, _, rfl, WR.bad hsp (T' := Ts T 3 t c d) ?_⟩
      rw [ec]
      show aE (Ts T 3 t c d) (nI k) = _
      unfold aE
      rw [if_pos ((bI_dig k2).mpr q)]
  · have e : ltI bf ty p = -1 := if_pos (by omega)
    rw [e, if_pos (by decide)]
    exact Or.inl ⟨_, _, rfl, WR.end_ (by omega) (show ¬ (3 : Nat) = 4 by decide)⟩
theorem wtR_w {c : Bool} {q : Nat} {wr : Int32} (h : ¬ wr = -1) : wtR c q wr = (q, wr) := if_neg h
theorem nmR_w {bf : Nat → Int32} {ty q : Nat} {a b wr : Int32} (h : ¬ wr = -1) : (nmR bf ty a b q wr).2.2 = wr := by
  unfold nmR
  rw [if_neg h]
theorem wtR_t (q : Nat) : wtR true q (-1) = (q + 1, -1) := rfl
theorem wtR_f (q : Nat) : wtR false q (-1) = (q + 1, nI q) := rfl
theorem part_r {bf : Nat → Int32} {ty : Nat} (hb : bfOK bf ty) {T : gTxt} (hc : ∀ i, i < ty → xCod T i = bf i) {sp : Nat} (hs : sp ≤ ty) (h60 : ty ≤ 60) (t c d : Int32) : (¬ (rpE bf ty sp).2.2 = -1 ∧ WR ty sp (Ts T 0 t c d) (rpE bf ty sp).2.2) ∨ ∃ k m n p, k < 4 ∧ 1 ≤ m ∧ m ≤ 500 ∧ n ≤ 999 ∧ (rpA bf ty sp).1 = nI m ∧ rpB bf ty sp = nI k ∧ rpE bf ty sp = (nI n, p, -1) ∧ sp + 4 ≤ p ∧ p ≤ ty ∧ rdR (ty - sp) sp (Ts T 0 t c d) = rdR (ty - p) p (Ts T 4 (nI k) (nI m) (nI n)) ∧ (p < ty → ∀ k, bf p = nI k → k ≤ 126 → ¬ (1 ≤ n ∧ 48 ≤ k ∧ k ≤ 57 ∧ 10 * n + (k - 48) ≤ 999)) := by
  have n1 : ∀ q, q ≤ 60 → ¬ nI q = -1 := fun q hq => nI_n1 (by omega)
  rcases pt_A hb hc hs h60 t c d with ⟨v, q, e1, e2⟩ | ⟨m, p1, e1, e2, e3, e4, e5, e6, e7⟩
  · have eE : (rpE bf ty sp).2.2 = nI sp := by
      unfold rpE rpD rpC qE qD qC
      rw [e1]
      show (nmR bf ty 0 999 _ (wtR _ (wtR _ q (nI sp)).1 (wtR _ q (nI sp)).2).2).2.2 = _
      rw [wtR_w (n1 sp (by omega)), wtR_w (n1 sp (by omega)), nmR_w (n1 sp (by omega))]
    rw [eE]
    exact Or.inl ⟨n1 sp (by omega), e2⟩
  · rcases pt_C hb hc e3 e5 t d e7 with ⟨f1, f2⟩ | ⟨k, hk, hp1, f1, f2, f3⟩
    · have eE : (rpE bf ty sp).2.2 = nI p1 := by
        unfold rpE rpD rpC qE qD qC
        rw [e1]
        show (nmR bf ty 0 999 _ (wtR _ (wtR (isTn (ltI bf ty p1 - 97)) p1 (-1)).1 (wtR (isTn (ltI bf ty p1 - 97)) p1 (-1)).2).2).2.2 = _
        rw [f1, wtR_f]
        show (nmR bf ty 0 999 _ (wtR _ (p1 + 1) (nI p1)).2).2.2 = _
        rw [wtR_w (n1 p1 (by omega)), nmR_w (n1 p1 (by omega))]
      rw [eE]
      exact Or.inl ⟨n1 p1 (by omega), WR.of e6 f2⟩
    · rcases pt_D hb hc (show p1 + 1 ≤ ty by omega) (nI k) (nI m) d with ⟨g1, g2⟩ | ⟨g1, g2, g3⟩
      · have eE : (rpE bf ty sp).2.2 = nI (p1 + 1) := by
          unfold rpE rpD rpC qE qD qC
          rw [e1]
          show (nmR bf ty 0 999 _ (wtR _ (wtR (isTn (ltI bf ty p1 - 97)) p1 (-1)).1 (wtR (isTn (ltI bf ty p1 - 97)) p1 (-1)).2).2).2.2 = _
          rw [f1, wtR_t]
          show (nmR bf ty 0 999 _ (wtR (decide (ltI bf ty (p1 + 1) = 64)) (p1 + 1) (-1)).2).2.2 = _
          rw [g1, wtR_f]
          exact nmR_w (n1 (p1 + 1) (by omega))
        rw [eE]
        exact Or.inl ⟨n1 (p1 + 1) (by omega), WR.of (e6.trans f3) g2⟩
      · have eE : rpE bf ty sp = nmR bf ty 0 999 (p1 + 1 + 1) (-1) := by
          unfold rpE rpD rpC qE qD qC
          rw [e1]
          show nmR bf ty 0 999 (wtR _ (wtR (isTn (ltI bf ty p1 - 97)) p1 (-1)).1 (wtR (isTn (ltI bf ty p1 - 97)) p1 (-1)).2).1 (wtR _ (wtR (isTn (ltI bf ty p1 - 97)) p1 (-1)).1 (wtR (isTn (ltI bf ty p1 - 97)) p1 (-1)).2).2 = _
          rw [f1, wtR_t]
          show nmR bf ty 0 999 (wtR (decide (ltI bf ty (p1 + 1) = 64)) (p1 + 1) (-1)).1 (wtR (decide (ltI bf ty (p1 + 1) = 64)) (p1 + 1) (-1)).2 = _
          rw [g1, wtR_t]
        rcases pt_E hb hc (show p1 + 1 + 1 ≤ ty by omega) h60 (nI k) (nI m) d with ⟨v, q, h1, h2⟩ | ⟨n, p, h1, h2, h3, h4, h5, h6⟩
        · rw [eE, h1]
          exact Or.inl ⟨n1 _ (by omega), WR.of ((e6.trans f3).trans g3) h2⟩
        · refine Or.inr ⟨k, m, n, p, hk, e4, e5, h4, by rw [e1], ?_, by rw [eE, h1], by omega, h3, ((e6.trans f3).trans g3).trans h5, h6⟩
          unfold rpB
          rw [e1]
          exact f2
