/-! SMALL INTS as integers; what a tray's cells sum up to -/
theorem ia {x y : Int32} (h1 : -2147483648 ≤ x.toInt + y.toInt) (h2 : x.toInt + y.toInt ≤ 2147483647) : (x + y).toInt = x.toInt + y.toInt := by
  rw [Int32.toInt_add]
  exact Int.bmod_eq_of_le (by omega) (by omega)
theorem is {x y : Int32} (h1 : -2147483648 ≤ x.toInt - y.toInt) (h2 : x.toInt - y.toInt ≤ 2147483647) : (x - y).toInt = x.toInt - y.toInt := by
  rw [Int32.toInt_sub]
  exact Int.bmod_eq_of_le (by omega) (by omega)
theorem i0 : (0 : Int32).toInt = 0 := rfl
theorem ilt {x y : Int32} : x < y ↔ x.toInt < y.toInt := Int32.lt_iff_toInt_lt
theorem ile {x y : Int32} : x ≤ y ↔ x.toInt ≤ y.toInt := Int32.le_iff_toInt_le
theorem ieq {x y : Int32} : x = y ↔ x.toInt = y.toInt := Int32.toInt_inj.symm
theorem iN {n : Nat} (h : n < 2147483648) : (nI n).toInt = (n : Int) := nI_toInt (by omega)
/-- a value that is not below 0 is a number's -/
theorem iof {x : Int32} (h : 0 ≤ x.toInt) : x = nI (tnx x) ∧ (tnx x : Int) = x.toInt := by
  obtain ⟨j, hj, rfl⟩ := nI_of (x := x) (fun q => by have := ilt.mp q; rw [i0] at this; omega)
  rw [show tnx (nI j) = j from nI_clamp hj, iN (by omega)]
  exact ⟨rfl, rfl⟩
/-- trays: no cell is below 0, none above B -/
def trOK (B : Int) (f : Nat → Int32) : Prop := ∀ i, i < 24 → 0 ≤ (f i).toInt ∧ (f i).toInt ≤ B
theorem hA_toInt {B : Int} {f : Nat → Int32} (hB : B ≤ 500000000) (h : trOK B f) {a : Nat} (ha : a < 6) : (hA f a).toInt = (f (a * 4 + 0)).toInt + (f (a * 4 + 1)).toInt + (f (a * 4 + 2)).toInt + (f (a * 4 + 3)).toInt := by
  have h0 := h (a * 4 + 0) (by omega)
  have h1 := h (a * 4 + 1) (by omega)
  have h2 := h (a * 4 + 2) (by omega)
  have h3 := h (a * 4 + 3) (by omega)
  unfold hA
  have e1 : (0 + f (a * 4 + 0)).toInt = (f (a * 4 + 0)).toInt := by rw [ia (by rw [i0]; omega) (by rw [i0]; omega), i0]; omega
  have e2 : (0 + f (a * 4 + 0) + f (a * 4 + 1)).toInt = (f (a * 4 + 0)).toInt + (f (a * 4 + 1)).toInt := by rw [ia (by rw [e1]; omega) (by rw [e1]; omega), e1]
  have e3 : (0 + f (a * 4 + 0) + f (a * 4 + 1) + f (a * 4 + 2)).toInt = (f (a * 4 + 0)).toInt + (f (a * 4 + 1)).toInt + (f (a * 4 + 2)).toInt := by rw [ia (by rw [e2]; omega) (by rw [e2]; omega), e2]
  rw [ia (by rw [e3]; omega) (by rw [e3]; omega), e3]
/-- tones in a tray, counted -/
theorem tnc_z {B : Int} {f : Nat → Int32} (h : trOK B f) {a : Nat} (ha : a < 6) : ∀ i, i ≤ 4 → (tnc f a i = 0 ↔ ∀ j, j < i → (f (a * 4 + j)).toInt = 0)
  | 0, _ => ⟨fun _ j hj => absurd hj (Nat.not_lt_zero _), fun _ => rfl⟩
  | i + 1, hi => by
    have h0 := h (a * 4 + i) (by omega)
    have ih := tnc_z h ha i (by omega)
    unfold tnc
    by_cases hc : f (a * 4 + i) ≤ 0
    · rw [if_pos hc, ih]
      have hc' : (f (a * 4 + i)).toInt ≤ 0 := by have := ile.mp hc; rwa [i0] at this
      refine ⟨fun q j hj => ?_, fun q j hj => q j (by omega)⟩
      by_cases hji : j = i
      · subst hji; omega
      · exact q j (by omega)
    · rw [if_neg hc]
      refine ⟨fun q => by omega, fun q => ?_⟩
      have := q i (by omega)
      exact absurd (ile.mpr (by rw [this, i0]; exact Int.le_refl 0)) hc
theorem tn_z {B : Int} {f : Nat → Int32} (hB : B ≤ 500000000) (h : trOK B f) {a : Nat} (ha : a < 6) : tn f a = 0 ↔ hA f a = 0 := by
  have hz := tnc_z h ha 4 (Nat.le_refl 4)
  have hs := hA_toInt hB h ha
  have h0 := h (a * 4 + 0) (by omega)
  have h1 := h (a * 4 + 1) (by omega)
  have h2 := h (a * 4 + 2) (by omega)
  have h3 := h (a * 4 + 3) (by omega)
  unfold tn
  rw [hz, ieq, hs, i0]
  refine ⟨fun q => ?_, fun q j hj => ?_⟩
  · have k0 := q 0 (by omega)
    have k1 := q 1 (by omega)
    have k2 := q 2 (by omega)
    have k3 := q 3 (by omega)
    omega
  · obtain rfl | rfl | rfl | rfl : j = 0 ∨ j = 1 ∨ j = 2 ∨ j = 3 := by omega
    all_goals omega
/-- a tray with a cube has a tone -/
theorem tnc_pos {f : Nat → Int32} {a : Nat} : ∀ (i j : Nat), j < i → ¬ f (a * 4 + j) ≤ 0 → 1 ≤ tnc f a i
  | 0, j, hj, _ => absurd hj (Nat.not_lt_zero _)
  | i + 1, j, hj, h => by
    unfold tnc
    by_cases hji : j = i
    · subst hji
      rw [if_neg h]
      omega
    · have := tnc_pos (f := f) (a := a) i j (by omega) h
      split <;> omega
theorem emc_r {B : Int} {f : Nat → Int32} (hB : B ≤ 500000000) (h : trOK B f) : ∀ i, i ≤ 6 → emc f i = emR f i
  | 0, _ => rfl
  | i + 1, hi => by
    unfold emc emR
    rw [emc_r hB h i (by omega)]
    by_cases hc : tn f i = 0
    · rw [if_pos hc, if_pos ((tn_z hB h (by omega)).mp hc)]
    · rw [if_neg hc, if_neg (fun q => hc ((tn_z hB h (by omega)).mpr q))]
theorem rdc_r {B : Int} {f : Nat → Int32} (h : trOK B f) {t : Nat} (ht : t < 4) : ∀ i, i ≤ 6 → rdc f t i = rpI f t i
  | 0, _ => rfl
  | i + 1, hi => by
    have h0 := h (i * 4 + t) (by omega)
    unfold rdc rpI
    rw [rdc_r h ht i (by omega)]
    by_cases hc : f (i * 4 + t) ≤ 0
    · rw [if_pos hc]
      have hz : f (i * 4 + t) = 0 := ieq.mpr (by have := ile.mp hc; rw [i0] at this ⊢; omega)
      rw [hz, Int32.add_zero]
      split <;> rfl
    · rw [if_neg hc]
      have hp : 1 ≤ tn f i := tnc_pos 4 t ht hc
      by_cases h1 : tn f i = 1
      · rw [if_pos h1, if_pos (by omega)]
      · rw [if_neg h1, if_neg (by omega)]
/-- the lowest empty tray, by both ways -/
theorem le6_r {B : Int} {f : Nat → Int32} (hB : B ≤ 500000000) (h : trOK B f) : leV (le6 f) = etI f := by
  have key : ∀ (n i : Nat), i + n = 6 → ∀ v : Int32, (v = -1 ∨ ∃ e, i ≤ e ∧ e < 6 ∧ v = nI e) → True := fun _ _ _ _ _ => trivial
  -- the way down from p: the lowest of those below p, else v
  have down : ∀ p, p ≤ 6 → ∀ v : Int32, etV f p v = v ∧ (∀ j, j < p → ¬ hA f j = 0) ∨ ∃ e, e < p ∧ etV f p v = nI e ∧ hA f e = 0 ∧ ∀ j, j < e → ¬ hA f j = 0 := by
    intro p
    induction p with
    | zero => exact fun _ v => Or.inl ⟨rfl, fun j hj => absurd hj (Nat.not_lt_zero _)⟩
    | succ p ih =>
      intro hp v
      unfold etV
      by_cases hc : hA f p = 0
      · rw [if_pos hc]
        rcases ih (by omega) (nI p) with ⟨h1, h2⟩ | ⟨e, h1, h2, h3, h4⟩
        · exact Or.inr ⟨p, by omega, h1, hc, h2⟩
        · exact Or.inr ⟨e, by omega, h2, h3, h4⟩
      · rw [if_neg hc]
        rcases ih (by omega) v with ⟨h1, h2⟩ | ⟨e, h1, h2, h3, h4⟩
        · refine Or.inl ⟨h1, fun j hj => ?_⟩
          by_cases hjp : j = p
          · subst hjp; exact hc
          · exact h2 j (by omega)
        · exact Or.inr ⟨e, by omega, h2, h3, h4⟩
  have up : ∀ n i, i + n = 6 → (∀ j, j < i → ¬ hA f j = 0) → lec f n i = 6 ∧ (∀ j, j < 6 → ¬ hA f j = 0) ∨ (lec f n i < 6 ∧ hA f (lec f n i) = 0 ∧ ∀ j, j < lec f n i → ¬ hA f j = 0) := by
    intro n
    induction n with
    | zero =>
      intro i hi hj
      obtain rfl : i = 6 := by omega
      exact Or.inl ⟨rfl, hj⟩
    | succ n ih =>
      intro i hi hj
      unfold lec
      by_cases hc : tn f i = 0
      · rw [if_pos hc]
        exact Or.inr ⟨by omega, (tn_z hB h (by omega)).mp hc, hj⟩
      · rw [if_neg hc]
        refine ih (i + 1) (by omega) (fun j hj2 => ?_)
        by_cases hji : j = i
        · subst hji
          exact fun q => hc ((tn_z hB h (by omega)).mpr q)
        · exact hj j (by omega)
  unfold le6
  rcases down 6 (Nat.le_refl 6) (-1) with ⟨h1, h2⟩ | ⟨e, h1, h2, h3, h4⟩
  · rcases up 6 0 rfl (fun j hj => absurd hj (Nat.not_lt_zero _)) with ⟨k1, -⟩ | ⟨k1, k2, -⟩
    · show leV _ = etV f 6 (-1)
      rw [k1, h1]
      rfl
    · exact absurd k2 (h2 _ k1)
  · rcases up 6 0 rfl (fun j hj => absurd hj (Nat.not_lt_zero _)) with ⟨k1, k2⟩ | ⟨k1, k2, k3⟩
    · exact absurd h3 (k2 e h1)
    · have he : lec f 6 0 = e := by
        rcases Nat.lt_trichotomy (lec f 6 0) e with q | q | q
        · exact absurd k2 (h4 _ q)
        · exact q
        · exact absurd h3 (k3 _ q)
      show leV _ = etV f 6 (-1)
      rw [he, h2]
      exact if_pos h1
