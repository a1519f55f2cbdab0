/-! THE LAW's day: its ranks, and what it leaves -/
/-- one end out of many -/
def gE {α : Type} (P : α → Prop) (o : α → gO) (h : α → gH) : gO → gH → Prop := fun o' h' => ∃ x, P x ∧ o' = o x ∧ h' = h x
theorem gAft_ex {K : gK} {sc : Nat × (Nat → Int32)} {R R' : Room} {n0 : Nat} {E : gO → gH → Prop} {cs ss pc : Nat} {l : gL} {st : List Value} {hh hc : gH} {ps : List Nat} {α : Type} {P : α → Prop} {o : α → gO} {h : α → gH} (kk : ∀ x, P x → gAft K sc R R' n0 E (gD (o x) (h x)) cs ss pc l st hh hc ps) : gAft K sc R R' n0 E (gE P o h) cs ss pc l st hh hc ps :=
  ⟨fun v hc' ⟨x, hx, e1, e2⟩ => (kk x hx).1 v hc' ⟨e1, e2⟩, fun X hc' ⟨x, hx, e1, e2⟩ => (kk x hx).2 X hc' ⟨e1, e2⟩⟩
/-- cells at the end may be forgotten -/
theorem gW_drop {K : gK} {sc : Nat × (Nat → Int32)} {R : Room} {n0 : Nat} {E : gO → gH → Prop} {cs ss pc : Nat} {l : gL} {st : List Value} {h : gH} (e : gH) (k : gW K sc R n0 E cs ss pc l st h) : gW K sc R n0 E cs ss pc l st (h ++ e) := by
  intro p la ev s m args below meth c G ad0 A X H locs ad ls had hl hP hD hS
  have key : ∀ (k : Nat) (q : Nat × va_E), (gmw G ad h)[k]? = some q → (gmw G ad (h ++ e))[k]? = some q := by
    intro k q hq
    rw [gmw_at] at hq ⊢
    cases hk : h[k]? with
    | none => rw [hk] at hq; cases hq
    | some x =>
      rw [hk] at hq
      rw [List.getElem?_append_left (List.getElem?_eq_some_iff.mp hk).1, hk]
      exact hq
  exact k p la ev s m args below meth c G ad0 A X H locs ad ls had hl (fun k q hq => hP k q (key k q hq)) ⟨fun i j p q h1 h2 h3 => hD.1 i j p q (key i p h1) (key j q h2) h3, fun k q hq => hD.2 k q (key k q hq)⟩ hS
/-- how many of the first r sections come ahead of section s -/
def rkN (k : Nat) (g : Nat → Int32) (s : Nat) : Nat → Nat
  | 0 => 0
  | r + 1 => if r = s then rkN k g s r else if bI (cb k g r s) = 0 then rkN k g s r else rkN k g s r + 1
theorem rkN_le (k : Nat) (g : Nat → Int32) (s : Nat) : ∀ r, rkN k g s r ≤ r
  | 0 => Nat.le_refl _
  | r + 1 => by
    have := rkN_le k g s r
    unfold rkN
    split
    · omega
    · split <;> omega
theorem rkN_lt (k : Nat) (g : Nat → Int32) (s : Nat) : ∀ r, s < r → rkN k g s r < r
  | 0, h => absurd h (Nat.not_lt_zero _)
  | r + 1, h => by
    have := rkN_le k g s r
    unfold rkN
    by_cases e : r = s
    · rw [if_pos e]
      omega
    · rw [if_neg e]
      have := rkN_lt k g s r (by omega)
      split <;> omega
def atF (k : Nat) (g : Nat → Int32) (n : Nat) (A : Nat → Int32) : Nat → Nat → Int32
  | 0 => A
  | s + 1 => upd (atF k g n A s) (rkN k g s n) (nI s)
def rltB (k : Nat) (r s : Rw) : Bool := if rk k r = rk k s then decide (rNo r < rNo s) else decide (rk k r < rk k s)
theorem rltB_iff {k : Nat} {r s : Rw} : rltB k r s = true ↔ rlt k r s := by
  unfold rltB rlt
  split <;> simp
theorem rltB_f {k : Nat} {r s : Rw} (h : ¬ rlt k r s) : rltB k r s = false := by
  cases e : rltB k r s with
  | false => rfl
  | true => exact absurd (rltB_iff.mp e) h
theorem rkN_c {k : Nat} (hk : k = 2 ∨ k = 3) (g : Nat → Int32) (s : Nat) : ∀ r, rkN k g s r = (List.range r).countP (fun i => rltB k (row g i) (row g s))
  | 0 => rfl
  | r + 1 => by
    rw [List.range_succ, List.countP_append, ← rkN_c hk g s r]
    show (if r = s then rkN k g s r else if bI (cb k g r s) = 0 then rkN k g s r else rkN k g s r + 1) = _
    by_cases e : r = s
    · rw [if_pos e]
      subst e
      rw [List.countP_cons, List.countP_nil, rltB_f rlt_ir]
      rfl
    · rw [if_neg e]
      have hc := cb_row hk g r s
      by_cases c : bI (cb k g r s) = 0
      · rw [if_pos c]
        have h0 : ¬ rlt k (row g r) (row g s) := fun q => by
          have := hc.mpr q
          rw [bI_f c] at this
          cases this
        rw [List.countP_cons, List.countP_nil, rltB_f h0]
        rfl
      · rw [if_neg c]
        rw [List.countP_cons, List.countP_nil, rltB_iff.mpr (hc.mp (bI_t c))]
        rfl
theorem cnt_lt (p : Nat) : ∀ n, p ≤ n → (List.range n).countP (fun i => decide (i < p)) = p
  | 0, h => by
    obtain rfl : p = 0 := by omega
    rfl
  | n + 1, h => by
    rw [List.range_succ, List.countP_append, List.countP_cons, List.countP_nil]
    by_cases e : p ≤ n
    · rw [cnt_lt p n e, decide_eq_false (show ¬ n < p by omega)]
      rfl
    · obtain rfl : p = n + 1 := by omega
      have : (List.range n).countP (fun i => decide (i < n + 1)) = n := by
        have h1 : (List.range n).countP (fun i => decide (i < n + 1)) = (List.range n).length := by
          refine List.countP_eq_length.mpr fun a ha => ?_
          have := List.mem_range.mp ha
          exact decide_eq_true (by omega)
        rw [h1, List.length_range]
      rw [this, decide_eq_true (show n < n + 1 by omega)]
      rfl
/-- the rank of a section is its place in the order -/
theorem rk_ord {k : Nat} (hk : k = 2 ∨ k = 3) {g G : Nat → Int32} {n : Nat} {o : Nat → Nat} (hs : (rows g n).Pairwise (rlt k)) (hr : ∀ p, p < n → row g p = row G (o p)) (ho : (ol o n).Perm (List.range n)) {p : Nat} (hp : p < n) : rkN k G (o p) n = p := by
  rw [rkN_c hk, ← ho.countP_eq]
  unfold ol
  rw [List.countP_map]
  have hlt : ∀ i j, i < j → j < n → rlt k (row g i) (row g j) := by
    intro i j hij hj
    have := List.pairwise_iff_getElem.mp hs i j (by rw [rows_len]; omega) (by rw [rows_len]; omega) hij
    have e1 : (rows g n)[i]'(by rw [rows_len]; omega) = row g i := Option.some.inj ((List.getElem?_eq_getElem _).symm.trans (rows_at (by omega)))
    have e2 : (rows g n)[j]'(by rw [rows_len]; omega) = row g j := Option.some.inj ((List.getElem?_eq_getElem _).symm.trans (rows_at hj))
    rw [e1, e2] at this
    exact this
  have e : (List.range n).countP ((fun i => rltB k (row G i) (row G (o p))) ∘ o) = (List.range n).countP (fun i => decide (i < p)) := by
    refine List.countP_congr fun i hi => ?_
    have hin := List.mem_range.mp hi
    show rltB k (row G (o i)) (row G (o p)) = true ↔ decide (i < p) = true
    rw [← hr i hin, ← hr p hp, rltB_iff, decide_eq_true_eq]
    refine ⟨fun q => ?_, fun q => hlt i p q hp⟩
    rcases Nat.lt_trichotomy i p with l | l | l
    · exact l
    · subst l
      exact absurd q rlt_ir
    · exact absurd (rlt_tr q (hlt p i l hin)) rlt_ir
  rw [e, cnt_lt p n (by omega)]
theorem atF_at {k : Nat} {G : Nat → Int32} {n : Nat} {o : Nat → Nat} (hrk : ∀ p, p < n → rkN k G (o p) n = p) (hsu : ∀ s, s < n → ∃ p, p < n ∧ o p = s) (A : Nat → Int32) : ∀ m, m ≤ n → ∀ s, s < m → atF k G n A m (rkN k G s n) = nI s
  | 0, _, s, h => absurd h (Nat.not_lt_zero _)
  | m + 1, hm, s, hs => by
    show upd (atF k G n A m) (rkN k G m n) (nI m) (rkN k G s n) = nI s
    by_cases e : s = m
    · subst e
      exact pk_us
    · have hne : rkN k G s n ≠ rkN k G m n := by
        intro q
        obtain ⟨p1, h1, e1⟩ := hsu s (by omega)
        obtain ⟨p2, h2, e2⟩ := hsu m (by omega)
        rw [← e1, ← e2, hrk p1 h1, hrk p2 h2] at q
        exact e (by rw [← e1, ← e2, q])
      rw [pk_un hne]
      exact atF_at hrk hsu A m (by omega) s (by omega)
theorem perm_sur {o : Nat → Nat} {n : Nat} (h : (ol o n).Perm (List.range n)) {s : Nat} (hs : s < n) : ∃ p, p < n ∧ o p = s := by
  have := h.mem_iff.mpr (List.mem_range.mpr hs)
  obtain ⟨p, hp, e⟩ := List.mem_map.mp this
  exact ⟨p, List.mem_range.mp hp, e⟩
/-- the order that the law reckons is the order that the reference lays -/
theorem at_ord {j : Nat} {D : gDom} (h : DI j D) (A : Nat → Int32) {p : Nat} (hp : p < dSz D) : atF (keyOf (dSt D 2)) (dG D) (dSz D) A (dSz D) p = nI (ord D p) ∧ ord D p < dSz D := by
  obtain ⟨a1, a2⟩ := arr_n (keyOf_k (dSt D 2)) h.rne
  obtain ⟨b1, b2⟩ := ord_row (keyOf_k (dSt D 2)) (od := od0) a2 a1 h.rne
  have hrk : ∀ p, p < dSz D → rkN (keyOf (dSt D 2)) (dG D) (ord D p) (dSz D) = p := fun p hp => rk_ord (keyOf_k (dSt D 2)) a1 b1 b2 hp
  have hlt : ord D p < dSz D := (ol_ok b2).1 p hp
  have := atF_at hrk (fun s hs => perm_sur b2 hs) A (dSz D) (Nat.le_refl _) (ord D p) hlt
  rw [hrk p hp] at this
  exact ⟨this, hlt⟩
/-- what setters do, added to what came in before -/
theorem wkR_v (s : Nat) : ∀ (k : Nat) (D : gDom) (v : Int32), (wkR s k D v).1 = (wkR s k D 0).1 ∧ (wkR s k D v).2.1 = v + (wkR s k D 0).2.1 ∧ (wkR s k D v).2.2 = (wkR s k D 0).2.2
  | 0, D, v => ⟨rfl, (Int32.add_zero v).symm, rfl⟩
  | k + 1, D, v => by
    unfold wkR
    by_cases h1 : dG D (s * 5 + 2) ≤ 0
    · rw [if_pos h1, if_pos h1]
      exact ⟨rfl, (Int32.add_zero v).symm, rfl⟩
    · rw [if_neg h1, if_neg h1]
      by_cases h2 : rpI (dTr D) (tnx (dG D (s * 5 + 1))) 6 ≤ 0
      · rw [if_pos h2, if_pos h2]
        exact ⟨rfl, (Int32.add_zero v).symm, rfl⟩
      · rw [if_neg h2, if_neg h2]
        obtain ⟨a1, a2, a3⟩ := wkR_v s k (lyD D s) (v + lyV D s)
        obtain ⟨b1, b2, b3⟩ := wkR_v s k (lyD D s) (0 + lyV D s)
        refine ⟨a1.trans b1.symm, ?_, a3.trans b3.symm⟩
        rw [a2, b2, Int32.zero_add, Int32.add_assoc]
/-- five cells are copied from row s to row l -/
def cpS (g : Nat → Int32) (l s k : Nat) : Nat → Int32 := upd g (l * 5 + k) (g (s * 5 + k))
def cpR (g : Nat → Int32) (l s : Nat) : Nat → Int32 := cpS (cpS (cpS (cpS (cpS g l s 0) l s 1) l s 2) l s 3) l s 4
theorem cpS_at (g : Nat → Int32) (l s k r i : Nat) (hk : k < 5) (hi : i < 5) : cpS g l s k (r * 5 + i) = if r = l ∧ i = k then g (s * 5 + i) else g (r * 5 + i) := by
  unfold cpS
  by_cases e : r = l ∧ i = k
  · obtain ⟨rfl, rfl⟩ := e
    rw [pk_us, if_pos ⟨rfl, rfl⟩]
  · rw [pk_un (by omega), if_neg e]
theorem cpS_n (g : Nat → Int32) {l s k r i : Nat} (hk : k < 5) (hi : i < 5) (h : ¬ (r = l ∧ i = k)) : cpS g l s k (r * 5 + i) = g (r * 5 + i) := by rw [cpS_at _ _ _ _ _ _ hk hi, if_neg h]
theorem cpS_y (g : Nat → Int32) {l s k : Nat} (hk : k < 5) : cpS g l s k (l * 5 + k) = g (s * 5 + k) := by rw [cpS_at _ _ _ _ _ _ hk hk, if_pos ⟨rfl, rfl⟩]
theorem row_cp (g : Nat → Int32) (l s r : Nat) : row (cpR g l s) r = if r = l then row g s else row g r := by
  have key : ∀ i, i < 5 → cpR g l s (r * 5 + i) = if r = l then g (s * 5 + i) else g (r * 5 + i) := by
    intro i hi
    by_cases e : r = l
    · subst e
      rw [if_pos rfl]
      by_cases es : s = r
      · subst es
        unfold cpR cpS
        rw [upd_same, upd_same, upd_same, upd_same, upd_same]
      · unfold cpR
        obtain rfl | rfl | rfl | rfl | rfl : i = 0 ∨ i = 1 ∨ i = 2 ∨ i = 3 ∨ i = 4 := by omega
        · rw [cpS_n _ (by omega) (by omega) (by omega), cpS_n _ (by omega) (by omega) (by omega), cpS_n _ (by omega) (by omega) (by omega), cpS_n _ (by omega) (by omega) (by omega), cpS_y _ (by omega)]
        · rw [cpS_n _ (by omega) (by omega) (by omega), cpS_n _ (by omega) (by omega) (by omega), cpS_n _ (by omega) (by omega) (by omega), cpS_y _ (by omega), cpS_n _ (by omega) (by omega) (by omega)]
        · rw [cpS_n _ (by omega) (by omega) (by omega), cpS_n _ (by omega) (by omega) (by omega), cpS_y _ (by omega), cpS_n _ (by omega) (by omega) (by omega), cpS_n _ (by omega) (by omega) (by omega)]
        · rw [cpS_n _ (by omega) (by omega) (by omega), cpS_y _ (by omega), cpS_n _ (by omega) (by omega) (by omega), cpS_n _ (by omega) (by omega) (by omega), cpS_n _ (by omega) (by omega) (by omega)]
        · rw [cpS_y _ (by omega), cpS_n _ (by omega) (by omega) (by omega), cpS_n _ (by omega) (by omega) (by omega), cpS_n _ (by omega) (by omega) (by omega), cpS_n _ (by omega) (by omega) (by omega)]
    · rw [if_neg e]
      unfold cpR
      rw [cpS_n _ (by omega) hi (by omega), cpS_n _ (by omega) hi (by omega), cpS_n _ (by omega) hi (by omega), cpS_n _ (by omega) hi (by omega), cpS_n _ (by omega) hi (by omega)]
  unfold row
  rw [key 0 (by omega), key 1 (by omega), key 2 (by omega), key 3 (by omega), key 4 (by omega)]
  split <;> rfl
theorem rw_eq {g G : Nat → Int32} {p q k : Nat} (h : row g p = row G q) (hk : k < 5) : g (p * 5 + k) = G (q * 5 + k) := row_eq.mp h k hk
/-- the state when the law has gone through the first s sections: those that want no more are gone -/
def edI (D : gDom) (s l : Nat) (g : Nat → Int32) : Prop := l ≤ s ∧ rows g l = (rows (dG D) s).filter keep ∧ ∀ r, s ≤ r → r < dSz D → row g r = row (dG D) r
theorem edI_0 (D : gDom) : edI D 0 0 (dG D) := ⟨Nat.le_refl _, rfl, fun _ _ _ => rfl⟩
theorem edI_g {D : gDom} {s l : Nat} {g : Nat → Int32} (h : edI D s l g) (hs : s < dSz D) (h0 : dG D (s * 5 + 2) = 0) : edI D (s + 1) l g := by
  obtain ⟨a, b, c⟩ := h
  refine ⟨by omega, ?_, fun r hr => c r (by omega)⟩
  rw [rows_s, List.filter_append, ← b]
  have : [row (dG D) s].filter keep = [] := by
    have h1 : rWa (row (dG D) s) = 0 := h0
    rw [List.filter_cons_of_neg (by unfold keep; simp [h1])]
    rfl
  rw [this, List.append_nil]
theorem edI_k {D : gDom} {s l : Nat} {g : Nat → Int32} (h : edI D s l g) (hs : s < dSz D) (h0 : ¬ dG D (s * 5 + 2) = 0) : edI D (s + 1) (l + 1) (cpR g l s) := by
  obtain ⟨a, b, c⟩ := h
  have hrow : row g s = row (dG D) s := c s (Nat.le_refl _) hs
  refine ⟨by omega, ?_, fun r hr hrn => ?_⟩
  · have e1 : rows (cpR g l s) l = rows g l := rows_c fun p hp => by rw [row_cp, if_neg (by omega)]
    have h1 : ¬ rWa (row (dG D) s) = 0 := h0
    rw [rows_s, rows_s, List.filter_append, ← b, e1, row_cp, if_pos rfl, hrow, List.filter_cons_of_pos (by unfold keep; simp [h1])]
    rfl
  · rw [row_cp, if_neg (by omega)]
    exact c r (by omega) hrn
theorem fs_n (φ : Rw → Int32) (g : Nat → Int32) (s : Nat) : fsum φ (rows g (s + 1)) = fsum φ (rows g s) + φ (row g s) := by rw [rows_s, fsum_app, fsum_one]
/-- the law's day comes to the reference's, but for cells that nobody reads -/
theorem day_e {D : gDom} {g : Nat → Int32} {l : Nat} (h : edI (rwC D od0).1 (dSz (rwC D od0).1) l g) : rows g (dSz (cwD D)) = rows (dG (cwD D)) (dSz (cwD D)) ∧ l = dSz (cwD D) ∧ ∃ a b c, dDn (cwD D) = dDn (rwC D od0).1 + a ∧ dLt (cwD D) = dLt (rwC D od0).1 + b ∧ dLd (cwD D) = dLd (rwC D od0).1 + c ∧ a = fsum f1 (rows (dG (rwC D od0).1) (dSz (rwC D od0).1)) ∧ b = fsum (f2 (dDy (rwC D od0).1)) (rows (dG (rwC D od0).1) (dSz (rwC D od0).1)) ∧ c = fsum (f3 (dDy (rwC D od0).1)) (rows (dG (rwC D od0).1) (dSz (rwC D od0).1)) ∧ dTr (cwD D) = dTr (rwC D od0).1 ∧ dSt (cwD D) = dSt (rwC D od0).1 ∧ dSh (cwD D) = dSh (rwC D od0).1 ∧ dCu (cwD D) = dCu (rwC D od0).1 ∧ dSw (cwD D) = dSw (rwC D od0).1 ∧ dLa (cwD D) = dLa (rwC D od0).1 ∧ dSo (cwD D) = dSo (rwC D od0).1 ∧ dC (cwD D) = dC (rwC D od0).1 ∧ dDy (cwD D) = dDy (rwC D od0).1 + 1 := by
  obtain ⟨-, hb, -⟩ := h
  obtain ⟨g', n', w1, w2⟩ := edR_d (dSz (rwC D od0).1) (rwC D od0).1 [] (List.append_nil _).symm (Nat.le_refl _)
  have e : cwD D = dayD (edR (dSz (rwC D od0).1) (rwC D od0).1) := rfl
  rw [List.append_nil] at w2
  have hl : l = n' := by
    have := congrArg List.length (hb.trans w2.symm)
    rwa [rows_len, rows_len] at this
  subst hl
  rw [e, w1]
  exact ⟨hb.trans w2.symm, rfl, _, _, _, rfl, rfl, rfl, rfl, rfl, rfl, rfl, rfl, rfl, rfl, rfl, rfl, rfl, rfl, rfl⟩
theorem wkR_di {j : Nat} (hj : j ≤ 600) (q : Nat) : ∀ (s : Nat) (D : gDom) (u : Int32), DI j D → q < dSz D → DI j (wkR q s D u).1
  | 0, D, u, h, _ => h
  | s + 1, D, u, h, hq => by
    unfold wkR
    by_cases h1 : dG D (q * 5 + 2) ≤ 0
    · rw [if_pos h1]
      exact h
    · rw [if_neg h1]
      by_cases h2 : rpI (dTr D) (tnx (dG D (q * 5 + 1))) 6 ≤ 0
      · rw [if_pos h2]
        exact h
      · rw [if_neg h2]
        exact wkR_di hj q s (lyD D q) _ (h.ly hj hq h1 h2) hq
