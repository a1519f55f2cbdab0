/-! the sections' rows: what moves them moves whole rows -/
theorem swS_at {g : Nat → Int32} {p o j q k : Nat} (hj : j < 5) (hk : k < 5) : swS g p o j (q * 5 + k) = if k = j then (if q = o then g (p * 5 + j) else if q = p then g (o * 5 + j) else g (q * 5 + k)) else g (q * 5 + k) := by
  have e1 : (q * 5 + k = o * 5 + j) ↔ (q = o ∧ k = j) := by omega
  have e2 : (q * 5 + k = p * 5 + j) ↔ (q = p ∧ k = j) := by omega
  unfold swS upd
  simp only [e1, e2]
  by_cases h1 : k = j
  · by_cases h2 : q = o
    · simp [h1, h2]
    · by_cases h3 : q = p
      · simp [h1, h2, h3]
      · simp [h1, h2, h3]
  · simp [h1]
theorem swapF_at {g : Nat → Int32} {p o q k : Nat} (hpo : p ≠ o) (hk : k < 5) : swapF g p o (q * 5 + k) = g ((if q = o then p else if q = p then o else q) * 5 + k) := by
  unfold swapF
  rcases (show k = 0 ∨ k = 1 ∨ k = 2 ∨ k = 3 ∨ k = 4 by omega) with rfl | rfl | rfl | rfl | rfl <;>
    (simp only [swS_at (show 0 < 5 by decide), swS_at (show 1 < 5 by decide), swS_at (show 2 < 5 by decide), swS_at (show 3 < 5 by decide), swS_at (show 4 < 5 by decide), show (0:Nat) < 5 by decide, show (1:Nat) < 5 by decide, show (2:Nat) < 5 by decide, show (3:Nat) < 5 by decide, show (4:Nat) < 5 by decide]
     by_cases h1 : q = o
     · simp [h1]
     · by_cases h2 : q = p
       · simp [h2, hpo]
       · simp [h1, h2])
theorem rcS_at {g : Nat → Int32} {p j q k : Nat} (hj : j < 5) (hk : k < 5) : rcS g p j (q * 5 + k) = if k = j then (if q = p then g ((p + 1) * 5 + j) else g (q * 5 + k)) else g (q * 5 + k) := by
  have e2 : (q * 5 + k = p * 5 + j) ↔ (q = p ∧ k = j) := by omega
  unfold rcS upd
  simp only [e2]
  by_cases h1 : k = j
  · by_cases h3 : q = p
    · simp [h1, h3]
    · simp [h1, h3]
  · simp [h1]
theorem rcF_at {g : Nat → Int32} {p q k : Nat} (hk : k < 5) : rcF g p (q * 5 + k) = g ((if q = p then p + 1 else q) * 5 + k) := by
  unfold rcF
  rcases (show k = 0 ∨ k = 1 ∨ k = 2 ∨ k = 3 ∨ k = 4 by omega) with rfl | rfl | rfl | rfl | rfl <;>
    (simp only [rcS_at (show 0 < 5 by decide), rcS_at (show 1 < 5 by decide), rcS_at (show 2 < 5 by decide), rcS_at (show 3 < 5 by decide), rcS_at (show 4 < 5 by decide), show (0:Nat) < 5 by decide, show (1:Nat) < 5 by decide, show (2:Nat) < 5 by decide, show (3:Nat) < 5 by decide, show (4:Nat) < 5 by decide]
     by_cases h2 : q = p
     · simp [h2]
     · simp [h2])
theorem rmO_at {g : Nat → Int32} {p k : Nat} (hk : k < 5) : ∀ (j q : Nat), rmO g p j (q * 5 + k) = g ((if p ≤ q ∧ q < p + j then q + 1 else q) * 5 + k)
  | 0, q => by
    rw [if_neg (by omega)]
    rfl
  | j + 1, q => by
    show rcF (rmO g p j) (p + j) (q * 5 + k) = _
    rw [rcF_at hk]
    by_cases h1 : q = p + j
    · rw [if_pos h1, rmO_at hk j, if_neg (by omega), if_pos (by omega), h1]
    · rw [if_neg h1, rmO_at hk j]
      by_cases h2 : p ≤ q ∧ q < p + j
      · rw [if_pos h2, if_pos (by omega)]
      · rw [if_neg h2, if_neg (by omega)]
/-- every row of g' is one of g -/
def rowsIn (g' : Nat → Int32) (n' : Nat) (g : Nat → Int32) (n : Nat) : Prop := ∀ q, q < n' → ∃ q0, q0 < n ∧ ∀ k, k < 5 → g' (q * 5 + k) = g (q0 * 5 + k)
theorem rowsIn.rf {g : Nat → Int32} {n : Nat} : rowsIn g n g n := fun q hq => ⟨q, hq, fun _ _ => rfl⟩
theorem rowsIn.tr {a b c : Nat → Int32} {l m n : Nat} (h1 : rowsIn a l b m) (h2 : rowsIn b m c n) : rowsIn a l c n := by
  intro q hq
  obtain ⟨q1, k1, e1⟩ := h1 q hq
  obtain ⟨q2, k2, e2⟩ := h2 q1 k1
  exact ⟨q2, k2, fun k hk => (e1 k hk).trans (e2 k hk)⟩
theorem rowsIn_swap {g : Nat → Int32} {n p o : Nat} (hp : p < n) (ho : o < n) (hpo : p ≠ o) : rowsIn (swapF g p o) n g n := by
  intro q hq
  refine ⟨if q = o then p else if q = p then o else q, ?_, fun k hk => swapF_at hpo hk⟩
  split
  · exact hp
  · split
    · exact ho
    · exact hq
theorem rowsIn_inn (k n : Nat) : ∀ (p : Nat) (g : Nat → Int32), p < n → rowsIn (inn k p g) n g n
  | 0, g, _ => rowsIn.rf
  | p + 1, g, hp => by
    unfold inn
    split
    · exact (rowsIn_inn k n p _ (by omega)).tr (rowsIn_swap hp (by omega) (by omega))
    · exact rowsIn.rf
theorem rowsIn_arr (k n : Nat) (g : Nat → Int32) : ∀ s, s < n ∨ s = 0 → rowsIn (arrO k g s) n g n
  | 0, _ => rowsIn.rf
  | s + 1, h => by
    have h1 : s + 1 < n := by omega
    exact (rowsIn_inn k n (s + 1) _ h1).tr (rowsIn_arr k n g s (by omega))
theorem rowsIn_rm {g : Nat → Int32} {n p : Nat} (hp : p < n) : rowsIn (rmO g p (n - 1 - p)) (n - 1) g n := by
  intro q hq
  refine ⟨if p ≤ q ∧ q < p + (n - 1 - p) then q + 1 else q, ?_, fun k hk => rmO_at hk _ q⟩
  split <;> omega
theorem okT_in {g' g : Nat → Int32} {n' n : Nat} (h : rowsIn g' n' g n) (ho : ∀ p, p < n → okT (g (p * 5 + 1))) : ∀ p, p < n' → okT (g' (p * 5 + 1)) := by
  intro p hp
  obtain ⟨q, hq, e⟩ := h p hp
  rw [e 1 (by decide)]
  exact ho q hq
/-- a dome on which days can pass -/
def dmOK (D : gDom) : Prop := dOK D ∧ dSt D 3 = nI (tnx (dSt D 3)) ∧ tnx (dSt D 3) ≤ 9
theorem wl_st (p : Nat) : ∀ (s : Nat) (D : gDom), dSt (wl p s D).1 = dSt D
  | 0, _ => rfl
  | s + 1, D => by
    unfold wl
    split
    · exact wl_st p s (layD D p)
    · rfl
theorem p2_st : ∀ (n i : Nat) (D : gDom) (s : Nat), dSt (p2 n i D s).1 = dSt D
  | 0, _, _, _ => rfl
  | n + 1, i, D, s => (p2_st n (i + 1) _ _).trans (wl_st i s D)
theorem cdD_st (D : gDom) (v : Int32) : dSt (cdD D v) = dSt D := by
  unfold cdD
  split <;> rfl
theorem dsS_ok {D : gDom} {p : Nat} (h : dOK D) (hp : p < dSz D) : dOK (dsS D p) ∧ dSt (dsS D p) = dSt D := by
  unfold dsS
  split
  · obtain ⟨h1, h2⟩ := cdD_1 D (dDy D - dG D (p * 5 + 3))
    refine ⟨⟨?_, ?_⟩, cdD_st D _⟩
    · show dSz (cdD D _) - 1 ≤ 10
      rw [h2]
      have := h.1
      omega
    · show ∀ q, q < dSz (cdD D _) - 1 → okT (rmO (dG (cdD D _)) p (dSz (cdD D _) - 1 - p) (q * 5 + 1))
      rw [h1, h2]
      exact okT_in (rowsIn_rm hp) h.2
  · exact ⟨h, rfl⟩
theorem dsS_ge (D : gDom) (p : Nat) (hp : p < dSz D) : p ≤ dSz (dsS D p) := by
  unfold dsS
  split
  · show p ≤ dSz (cdD D _) - 1
    rw [(cdD_1 D _).2]
    omega
  · omega
theorem dsR_ok : ∀ (p : Nat) (D : gDom), dOK D → p ≤ dSz D → dOK (dsR p D) ∧ dSt (dsR p D) = dSt D
  | 0, D, h, _ => ⟨h, rfl⟩
  | p + 1, D, h, hp => by
    obtain ⟨h1, h2⟩ := dsS_ok h hp
    obtain ⟨h3, h4⟩ := dsR_ok p (dsS D p) h1 (dsS_ge D p hp)
    exact ⟨h3, h4.trans h2⟩
theorem arr_ok {D : gDom} (h : dOK D) (o : Int32) : ∀ p, p < dSz D → okT (arrO (keyOf o) (dG D) (dSz D - 1) (p * 5 + 1)) := okT_in (rowsIn_arr (keyOf o) (dSz D) (dG D) (dSz D - 1) (by omega)) h.2
theorem pdD_ok {D : gDom} (h : dOK D) : dOK (pdD D) ∧ dSt (pdD D) = dSt D := by
  obtain ⟨h1, h2⟩ := p2_ok (dSz D) 0 (setTS D (pdA D).1 (pdA D).2.1) (pdA D).2.2 (setTS_ok h)
  have h3 := p2_st (dSz D) 0 (setTS D (pdA D).1 (pdA D).2.1) (pdA D).2.2
  obtain ⟨h4, h5⟩ := dsR_ok (dSz (pdB D).1) (pdB D).1 h1 (Nat.le_refl _)
  exact ⟨⟨h4.1, arr_ok h4 _⟩, h5.trans h3⟩
theorem pdD_dm {D : gDom} (h : dmOK D) : dmOK (pdD D) := by
  obtain ⟨h1, h2⟩ := pdD_ok h.1
  exact ⟨h1, by rw [h2]; exact h.2.1, by rw [h2]; exact h.2.2⟩
/-- n days -/
def pdI : Nat → gDom → gDom
  | 0, D => D
  | n + 1, D => pdD (pdI n D)
theorem pdI_dm {D : gDom} (h : dmOK D) : ∀ n, dmOK (pdI n D)
  | 0 => h
  | n + 1 => pdD_dm (pdI_dm h n)
theorem chgD_dm {D : gDom} (h : dmOK D) (v : Int32) : dmOK (chgD D 2 v) := ⟨⟨h.1.1, arr_ok h.1 _⟩, h.2.1, h.2.2⟩
