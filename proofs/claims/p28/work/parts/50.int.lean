/-! THE PURE HALF, taken over from whole by wip/p28/port2.py -/
/-! SMALL INTS as integers; what a tray's cells sum up to -/
theorem ia {x y : Int32} (h1 : -2147483648 ≤ x.toInt + y.toInt) (h2 : x.toInt + y.toInt ≤ 2147483647) : (x + y).toInt = x.toInt + y.toInt := by
  rw [Int32.toInt_add]
  exact Int.bmod_eq_of_le (by omega) (by omega)
theorem is {x y : Int32} (h1 : -2147483648 ≤ x.toInt - y.toInt) (h2 : x.toInt - y.toInt ≤ 2147483647) : (x - y).toInt = x.toInt - y.toInt := by
  rw [Int32.toInt_sub]
  exact Int.bmod_eq_of_le (by omega) (by omega)
theorem i0 : (0 : Int32).toInt = 0 := rfl
theorem ilt {x y : Int32} : x < y ↔ x.toInt < y.toInt := Int32.lt_iff_toInt_lt
theorem ile {x y : Int32} : x ≤ y ↔ x.toInt ≤ y.toInt := Int32.le_iff_toInt_le
theorem ieq {x y : Int32} : x = y ↔ x.toInt = y.toInt := Int32.toInt_inj.symm
theorem iN {n : Nat} (h : n < 2147483648) : (nI n).toInt = (n : Int) := nI_toInt (by omega)
/-- a value that is not below 0 is a number's -/
theorem iof {x : Int32} (h : 0 ≤ x.toInt) : x = nI (tnx x) ∧ (tnx x : Int) = x.toInt := by
  obtain ⟨j, hj, rfl⟩ := nI_of (x := x) (fun q => by have := ilt.mp q; rw [i0] at this; omega)
  rw [show tnx (nI j) = j from nI_clamp hj, iN (by omega)]
  exact ⟨rfl, rfl⟩
/-- trays: no cell is below 0, none above B -/
def trOK (B : Int) (f : Nat → Int32) : Prop := ∀ i, i < 24 → 0 ≤ (f i).toInt ∧ (f i).toInt ≤ B
theorem hA_toInt {B : Int} {f : Nat → Int32} (hB : B ≤ 500000000) (h : trOK B f) {a : Nat} (ha : a < 6) : (hA f a).toInt = (f (a * 4 + 0)).toInt + (f (a * 4 + 1)).toInt + (f (a * 4 + 2)).toInt + (f (a * 4 + 3)).toInt := by
  have h0 := h (a * 4 + 0) (by omega)
  have h1 := h (a * 4 + 1) (by omega)
  have h2 := h (a * 4 + 2) (by omega)
  have h3 := h (a * 4 + 3) (by omega)
  unfold hA
  have e1 : (0 + f (a * 4 + 0)).toInt = (f (a * 4 + 0)).toInt := by rw [ia (by rw [i0]; omega) (by rw [i0]; omega), i0]; omega
  have e2 : (0 + f (a * 4 + 0) + f (a * 4 + 1)).toInt = (f (a * 4 + 0)).toInt + (f (a * 4 + 1)).toInt := by rw [ia (by rw [e1]; omega) (by rw [e1]; omega), e1]
  have e3 : (0 + f (a * 4 + 0) + f (a * 4 + 1) + f (a * 4 + 2)).toInt = (f (a * 4 + 0)).toInt + (f (a * 4 + 1)).toInt + (f (a * 4 + 2)).toInt := by rw [ia (by rw [e2]; omega) (by rw [e2]; omega), e2]
  rw [ia (by rw [e3]; omega) (by rw [e3]; omega), e3]
/-- tones in a tray, counted -/
theorem tnc_z {B : Int} {f : Nat → Int32} (h : trOK B f) {a : Nat} (ha : a < 6) : ∀ i, i ≤ 4 → (tnc f a i = 0 ↔ ∀ j, j < i → (f (a * 4 + j)).toInt = 0)
  | 0, _ => ⟨fun _ j hj => absurd hj (Nat.not_lt_zero _), fun _ => rfl⟩
  | i + 1, hi => by
    have h0 := h (a * 4 + i) (by omega)
    have ih := tnc_z h ha i (by omega)
    unfold tnc
    by_cases hc : f (a * 4 + i) ≤ 0
    · rw [if_pos hc, ih]
      have hc' : (f (a * 4 + i)).toInt ≤ 0 := by have := ile.mp hc; rwa [i0] at this
      refine ⟨fun q j hj => ?_, fun q j hj => q j (by omega)⟩
      by_cases hji : j = i
      · subst hji; omega
      · exact q j (by omega)
    · rw [if_neg hc]
      refine ⟨fun q => by omega, fun q => ?_⟩
      have := q i (by omega)
      exact absurd (ile.mpr (by rw [this, i0]; exact Int.le_refl 0)) hc
theorem tn_z {B : Int} {f : Nat → Int32} (hB : B ≤ 500000000) (h : trOK B f) {a : Nat} (ha : a < 6) : tn f a = 0 ↔ hA f a = 0 := by
  have hz := tnc_z h ha 4 (Nat.le_refl 4)
  have hs := hA_toInt hB h ha
  have h0 := h (a * 4 + 0) (by omega)
  have h1 := h (a * 4 + 1) (by omega)
  have h2 := h (a * 4 + 2) (by omega)
  have h3 := h (a * 4 + 3) (by omega)
  unfold tn
  rw [hz, ieq, hs, i0]
  refine ⟨fun q => ?_, fun q j hj => ?_⟩
  · have k0 := q 0 (by omega)
    have k1 := q 1 (by omega)
    have k2 := q 2 (by omega)
    have k3 := q 3 (by omega)
    omega
  · obtain rfl | rfl | rfl | rfl : j = 0 ∨ j = 1 ∨ j = 2 ∨ j = 3 := by omega
    all_goals omega
/-- a tray with a cube has a tone -/
theorem tnc_pos {f : Nat → Int32} {a : Nat} : ∀ (i j : Nat), j < i → ¬ f (a * 4 + j) ≤ 0 → 1 ≤ tnc f a i
  | 0, j, hj, _ => absurd hj (Nat.not_lt_zero _)
  | i + 1, j, hj, h => by
    unfold tnc
    by_cases hji : j = i
    · subst hji
      rw [if_neg h]
      omega
    · have := tnc_pos (f := f) (a := a) i j (by omega) h
      split <;> omega
theorem emc_r {B : Int} {f : Nat → Int32} (hB : B ≤ 500000000) (h : trOK B f) : ∀ i, i ≤ 6 → emc f i = emR f i
  | 0, _ => rfl
  | i + 1, hi => by
    unfold emc emR
    rw [emc_r hB h i (by omega)]
    by_cases hc : tn f i = 0
    · rw [if_pos hc, if_pos ((tn_z hB h (by omega)).mp hc)]
    · rw [if_neg hc, if_neg (fun q => hc ((tn_z hB h (by omega)).mpr q))]
theorem rdc_r {B : Int} {f : Nat → Int32} (h : trOK B f) {t : Nat} (ht : t < 4) : ∀ i, i ≤ 6 → rdc f t i = rpI f t i
  | 0, _ => rfl
  | i + 1, hi => by
    have h0 := h (i * 4 + t) (by omega)
    unfold rdc rpI
    rw [rdc_r h ht i (by omega)]
    by_cases hc : f (i * 4 + t) ≤ 0
    · rw [if_pos hc]
      have hz : f (i * 4 + t) = 0 := ieq.mpr (by have := ile.mp hc; rw [i0] at this ⊢; omega)
      rw [hz, Int32.add_zero]
      split <;> rfl
    · rw [if_neg hc]
      have hp : 1 ≤ tn f i := tnc_pos 4 t ht hc
      by_cases h1 : tn f i = 1
      · rw [if_pos h1, if_pos (by omega)]
      · rw [if_neg h1, if_neg (by omega)]
/-- the lowest empty tray, by both ways -/
theorem le6_r {B : Int} {f : Nat → Int32} (hB : B ≤ 500000000) (h : trOK B f) : leV (le6 f) = etI f := by
  have key : ∀ (n i : Nat), i + n = 6 → ∀ v : Int32, (v = -1 ∨ ∃ e, i ≤ e ∧ e < 6 ∧ v = nI e) → True := fun _ _ _ _ _ => trivial
  -- the way down from p: the lowest of those below p, else v
  have down : ∀ p, p ≤ 6 → ∀ v : Int32, etV f p v = v ∧ (∀ j, j < p → ¬ hA f j = 0) ∨ ∃ e, e < p ∧ etV f p v = nI e ∧ hA f e = 0 ∧ ∀ j, j < e → ¬ hA f j = 0 := by
    intro p
    induction p with
    | zero => exact fun _ v => Or.inl ⟨rfl, fun j hj => absurd hj (Nat.not_lt_zero _)⟩
    | succ p ih =>
      intro hp v
      unfold etV
      by_cases hc : hA f p = 0
      · rw [if_pos hc]
        rcases ih (by omega) (nI p) with ⟨h1, h2⟩ | ⟨e, h1, h2, h3, h4⟩
        · exact Or.inr ⟨p, by omega, h1, hc, h2⟩
        · exact Or.inr ⟨e, by omega, h2, h3, h4⟩
      · rw [if_neg hc]
        rcases ih (by omega) v with ⟨h1, h2⟩ | ⟨e, h1, h2, h3, h4⟩
        · refine Or.inl ⟨h1, fun j hj => ?_⟩
          by_cases hjp : j = p
          · subst hjp; exact hc
          · exact h2 j (by omega)
        · exact Or.inr ⟨e, by omega, h2, h3, h4⟩
  have up : ∀ n i, i + n = 6 → (∀ j, j < i → ¬ hA f j = 0) → lec f n i = 6 ∧ (∀ j, j < 6 → ¬ hA f j = 0) ∨ (lec f n i < 6 ∧ hA f (lec f n i) = 0 ∧ ∀ j, j < lec f n i → ¬ hA f j = 0) := by
    intro n
    induction n with
    | zero =>
      intro i hi hj
      obtain rfl : i = 6 := by omega
      exact Or.inl ⟨rfl, hj⟩
    | succ n ih =>
      intro i hi hj
      unfold lec
      by_cases hc : tn f i = 0
      · rw [if_pos hc]
        exact Or.inr ⟨by omega, (tn_z hB h (by omega)).mp hc, hj⟩
      · rw [if_neg hc]
        refine ih (i + 1) (by omega) (fun j hj2 => ?_)
        by_cases hji : j = i
        · subst hji
          exact fun q => hc ((tn_z hB h (by omega)).mpr q)
        · exact hj j (by omega)
  unfold le6
  rcases down 6 (Nat.le_refl 6) (-1) with ⟨h1, h2⟩ | ⟨e, h1, h2, h3, h4⟩
  · rcases up 6 0 rfl (fun j hj => absurd hj (Nat.not_lt_zero _)) with ⟨k1, -⟩ | ⟨k1, k2, -⟩
    · show leV _ = etV f 6 (-1)
      rw [k1, h1]
      rfl
    · exact absurd k2 (h2 _ k1)
  · rcases up 6 0 rfl (fun j hj => absurd hj (Nat.not_lt_zero _)) with ⟨k1, k2⟩ | ⟨k1, k2, k3⟩
    · exact absurd h3 (k2 e h1)
    · have he : lec f 6 0 = e := by
        rcases Nat.lt_trichotomy (lec f 6 0) e with q | q | q
        · exact absurd k2 (h4 _ q)
        · exact q
        · exact absurd h3 (k3 _ q)
      show leV _ = etV f 6 (-1)
      rw [he, h2]
      exact if_pos h1

/-! TRAYS: both sides' ways over them do the same; no cell falls below 0, no tray rises above 500 -/
def tot (f : Nat → Int32) (a : Nat) : Int := (f (a * 4 + 0)).toInt + (f (a * 4 + 1)).toInt + (f (a * 4 + 2)).toInt + (f (a * 4 + 3)).toInt
def trI (f : Nat → Int32) : Prop := (∀ i, i < 24 → 0 ≤ (f i).toInt) ∧ ∀ a, a < 6 → tot f a ≤ 500
def sm (f : Nat → Int32) : Nat → Int
  | 0 => 0
  | n + 1 => sm f n + (f n).toInt
theorem upd_at (f : Nat → Int32) (i : Nat) (v : Int32) : upd f i v i = v := if_pos rfl
theorem upd_ne (f : Nat → Int32) {i j : Nat} (v : Int32) (h : j ≠ i) : upd f i v j = f j := if_neg h
theorem upd_same (f : Nat → Int32) (i : Nat) : upd f i (f i) = f := by
  funext j
  by_cases h : j = i
  · subst h; exact upd_at _ _ _
  · exact upd_ne _ _ h
theorem sm_upd {f : Nat → Int32} {v : Int32} : ∀ {n i : Nat}, i < n → sm (upd f i v) n = sm f n - (f i).toInt + v.toInt
  | 0, i, h => absurd h (Nat.not_lt_zero _)
  | n + 1, i, h => by
    unfold sm
    by_cases hi : i = n
    · subst hi
      have : ∀ m, m ≤ i → sm (upd f i v) m = sm f m := by
        intro m
        induction m with
        | zero => exact fun _ => rfl
        | succ m ih =>
          intro hm
          unfold sm
          rw [ih (by omega), upd_ne _ _ (by omega)]
      rw [this i (Nat.le_refl i), upd_at]
      omega
    · rw [sm_upd (show i < n by omega), upd_ne _ _ (by omega)]
      omega
theorem tot_upd {f : Nat → Int32} {v : Int32} {a t : Nat} (ht : t < 4) : tot (upd f (a * 4 + t) v) a = tot f a - (f (a * 4 + t)).toInt + v.toInt := by
  unfold tot
  obtain rfl | rfl | rfl | rfl : t = 0 ∨ t = 1 ∨ t = 2 ∨ t = 3 := by omega
  all_goals
    rw [upd_at]
    repeat rw [upd_ne _ _ (by omega)]
    omega
theorem tot_upd_ne {f : Nat → Int32} {v : Int32} {a b t : Nat} (ht : t < 4) (h : b ≠ a) : tot (upd f (a * 4 + t) v) b = tot f b := by
  unfold tot
  rw [upd_ne _ _ (by omega), upd_ne _ _ (by omega), upd_ne _ _ (by omega), upd_ne _ _ (by omega)]
theorem trI.upd {f : Nat → Int32} (h : trI f) {a t : Nat} (ha : a < 6) (ht : t < 4) {v : Int32} (hv : 0 ≤ v.toInt) (hb : tot f a - (f (a * 4 + t)).toInt + v.toInt ≤ 500) : trI (upd f (a * 4 + t) v) := by
  refine ⟨fun i hi => ?_, fun b hb2 => ?_⟩
  · by_cases hia : i = a * 4 + t
    · subst hia; rw [upd_at]; exact hv
    · rw [upd_ne _ _ hia]; exact h.1 i hi
  · by_cases hba : b = a
    · subst hba; rw [tot_upd ht]; exact hb
    · rw [tot_upd_ne ht hba]; exact h.2 b hb2
theorem trI.cell {f : Nat → Int32} (h : trI f) {a t : Nat} (ha : a < 6) (ht : t < 4) : 0 ≤ (f (a * 4 + t)).toInt ∧ (f (a * 4 + t)).toInt ≤ tot f a ∧ tot f a ≤ 500 := by
  have h0 := h.1 (a * 4 + 0) (by omega)
  have h1 := h.1 (a * 4 + 1) (by omega)
  have h2 := h.1 (a * 4 + 2) (by omega)
  have h3 := h.1 (a * 4 + 3) (by omega)
  refine ⟨h.1 _ (by omega), ?_, h.2 a ha⟩
  unfold tot
  obtain rfl | rfl | rfl | rfl : t = 0 ∨ t = 1 ∨ t = 2 ∨ t = 3 := by omega
  all_goals omega
theorem trI.ok {f : Nat → Int32} (h : trI f) : trOK 500 f := by
  intro i hi
  have h1 := h.cell (a := i / 4) (t := i % 4) (by omega) (by omega)
  rw [show i / 4 * 4 + i % 4 = i by omega] at h1
  exact ⟨h1.1, by omega⟩
theorem trI.hA {f : Nat → Int32} (h : trI f) {a : Nat} (ha : a < 6) : (hA f a).toInt = tot f a := hA_toInt (by decide) h.ok ha
theorem trI.tot0 {f : Nat → Int32} (h : trI f) {a : Nat} (ha : a < 6) : 0 ≤ tot f a := by
  have := h.cell (t := 0) ha (by omega)
  omega
/-- the room left in a tray -/
theorem frI_b {f : Nat → Int32} (h : trI f) {a : Nat} (ha : a < 6) {r : Int32} (h0 : 0 ≤ r.toInt) (h5 : r.toInt ≤ 500) : 0 ≤ (frI f a r).toInt ∧ (frI f a r).toInt ≤ r.toInt ∧ ((frI f a r).toInt = 0 ∨ (frI f a r).toInt = r.toInt - tot f a) := by
  have hh := h.hA ha
  have ht := h.tot0 ha
  have ht5 := h.2 a ha
  have hs : (r - hA f a).toInt = r.toInt - tot f a := by rw [is (by omega) (by omega), hh]
  unfold frI
  by_cases hc : 0 < r - hA f a
  · rw [if_pos hc, hs]
    have := ilt.mp hc
    rw [i0, hs] at this
    omega
  · rw [if_neg hc, i0]
    omega
theorem pmI_b {f : Nat → Int32} (h : trI f) {a t : Nat} (ha : a < 6) (ht : t < 4) {r : Int32} (h0 : 0 ≤ r.toInt) : 0 ≤ (pmI f a t r).toInt ∧ (pmI f a t r).toInt ≤ r.toInt ∧ (pmI f a t r).toInt ≤ (f (a * 4 + t)).toInt := by
  have hc := h.cell ha ht
  unfold pmI
  by_cases hr : r < f (a * 4 + t)
  · rw [if_pos hr]
    have := ilt.mp hr
    omega
  · rw [if_neg hr]
    have := mt ilt.mpr hr
    omega
theorem i_neg {x : Int32} (h : 0 ≤ x.toInt) (h2 : x.toInt ≤ 1000000000) : (-x).toInt = -x.toInt := by
  rw [Int32.toInt_neg]
  exact Int.bmod_eq_of_le (by omega) (by omega)
theorem pour_ok {f : Nat → Int32} (h : trI f) {a b t : Nat} (ha : a < 6) (hb : b < 6) (hab : a ≠ b) (ht : t < 4) {m : Int32} (h0 : 0 ≤ m.toInt) (h1 : m.toInt ≤ (f (a * 4 + t)).toInt) (h2 : tot f b + m.toInt ≤ 500) : trI (pourF f a b t m) ∧ sm (pourF f a b t m) 24 = sm f 24 := by
  have ca := h.cell ha ht
  have cb := h.cell hb ht
  have e1 : (f (a * 4 + t) + -m).toInt = (f (a * 4 + t)).toInt - m.toInt := by
    rw [ia (by rw [i_neg h0 (by omega)]; omega) (by rw [i_neg h0 (by omega)]; omega), i_neg h0 (by omega)]
    omega
  have t1 : trI (upd f (a * 4 + t) (f (a * 4 + t) + -m)) := h.upd ha ht (by rw [e1]; omega) (by rw [e1]; omega)
  have e2 : (upd f (a * 4 + t) (f (a * 4 + t) + -m) (b * 4 + t)) = f (b * 4 + t) := upd_ne _ _ (by omega)
  have e3 : (f (b * 4 + t) + m).toInt = (f (b * 4 + t)).toInt + m.toInt := ia (by omega) (by omega)
  unfold pourF
  refine ⟨t1.upd hb ht (by rw [e2, e3]; omega) (by rw [e2, e3, tot_upd_ne ht (Ne.symm hab)]; omega), ?_⟩
  rw [sm_upd (by omega), sm_upd (by omega), e2, e3, e1]
  omega
theorem pour_z {f : Nat → Int32} {a b t : Nat} {m : Int32} (h : m = 0) : pourF f a b t m = f := by
  subst h
  unfold pourF
  rw [show f (a * 4 + t) + -0 = f (a * 4 + t) by simp, upd_same, show f (b * 4 + t) + 0 = f (b * 4 + t) by simp, upd_same]
theorem etI_e {f : Nat → Int32} (h : trI f) : etI f = -1 ∨ (∃ e, e < 6 ∧ etI f = nI e ∧ le6 f = e ∧ tot f e = 0) := by
  have h1 := le6_r (by decide) h.ok
  unfold leV at h1
  by_cases hc : le6 f < 6
  · rw [if_pos hc] at h1
    refine Or.inr ⟨le6 f, hc, h1.symm, rfl, ?_⟩
    have hz : tn f (le6 f) = 0 := by
      have key : ∀ n i, i + n = 6 → lec f n i < 6 → tn f (lec f n i) = 0 := by
        intro n
        induction n with
        | zero =>
          intro i hi hl
          have : lec f 0 i = i := rfl
          omega
        | succ n ih =>
          intro i hi hl
          unfold lec at hl ⊢
          by_cases q : tn f i = 0
          · rw [if_pos q]; exact q
          · rw [if_neg q] at hl ⊢
            exact ih (i + 1) (by omega) hl
      exact key 6 0 rfl hc
    have := (tn_z (by decide) h.ok hc).mp hz
    rw [← h.hA hc, this, i0]
  · rw [if_neg hc] at h1
    exact Or.inl h1.symm
theorem sort_s {f : Nat → Int32} (h : trI f) {a t : Nat} (k : Nat) (ha : a < 6) (ht : t < 4) {r : Int32} (hr0 : 0 < r.toInt) (hr5 : r.toInt ≤ 500) : soS a k r f t = srS a k r f t ∧ trI (srS a k r f t) ∧ sm (srS a k r f t) 24 = sm f 24 := by
  have hc := h.cell ha ht
  unfold soS srS
  by_cases htk : t = k
  · rw [if_pos htk, if_pos htk]
    exact ⟨rfl, h, rfl⟩
  · rw [if_neg htk, if_neg htk, le6_r (by decide) h.ok]
    rcases etI_e h with he | ⟨e, he6, he, hle, hte⟩
    · rw [if_pos he, if_pos he]
      refine ⟨by split <;> rfl, ?_⟩
      split <;> exact ⟨h, rfl⟩
    · have hne : ¬ etI f = -1 := by rw [he]; intro q; have := ieq.mp q; rw [iN (by omega)] at this; exact absurd this (by rw [show (-1 : Int32).toInt = -1 from rfl]; omega)
      rw [if_neg hne, if_neg hne, hle]
      by_cases hf : f (a * 4 + t) ≤ 0
      · rw [if_pos hf]
        have hf' := ile.mp hf
        rw [i0] at hf'
        have hm : pmI f a t r = 0 := by
          have := pmI_b h ha ht (r := r) (by omega)
          refine ieq.mpr ?_
          rw [i0]; omega
        exact ⟨pour_z hm, h, rfl⟩
      · rw [if_neg hf]
        have hf' := mt ile.mpr hf
        rw [i0] at hf'
        have hfr : frI f e r = r := by
          unfold frI
          have hz : hA f e = 0 := ieq.mpr (by rw [h.hA he6, hte, i0])
          rw [hz, Int32.sub_zero, if_pos (ilt.mpr (by rw [i0]; exact hr0))]
        have hx : tnx (etI f) = e := by rw [he]; exact nI_clamp (by omega)
        rw [hx, hfr]
        have hb := pmI_b h ha ht (r := r) (by omega)
        have hae : a ≠ e := by
          intro q
          subst q
          omega
        have := pour_ok h ha he6 hae ht hb.1 hb.2.2 (by omega)
        exact ⟨rfl, this⟩
theorem sort_r {f : Nat → Int32} (h : trI f) {a : Nat} (k : Nat) (ha : a < 6) {r : Int32} (hr0 : 0 < r.toInt) (hr5 : r.toInt ≤ 500) : ∀ t, t ≤ 4 → soR a k r f t = srR a k r f t ∧ trI (srR a k r f t) ∧ sm (srR a k r f t) 24 = sm f 24
  | 0, _ => ⟨rfl, h, rfl⟩
  | t + 1, ht => by
    obtain ⟨h1, h2, h3⟩ := sort_r h k ha hr0 hr5 t (by omega)
    obtain ⟨g1, g2, g3⟩ := sort_s h2 k ha (show t < 4 by omega) hr0 hr5
    unfold soR srR
    rw [h1, g1]
    exact ⟨rfl, g2, by rw [g3, h3]⟩
theorem sorts_r {r : Int32} (hr0 : 0 < r.toInt) (hr5 : r.toInt ≤ 500) : ∀ (n i : Nat) (f : Nat → Int32) (so : Int32) (s : Nat), i + n = 6 → trI f → p1 r n i f so s = r1 r n i f so s ∧ trI (r1 r n i f so s).1 ∧ sm (r1 r n i f so s).1 24 = sm f 24
  | 0, i, f, so, s, _, h => ⟨rfl, h, rfl⟩
  | n + 1, i, f, so, s, hi, h => by
    unfold p1 r1
    by_cases hs : s = 0
    · rw [if_pos hs, if_pos hs]
      have key : ∀ (n i : Nat), r1 r n i f so s = (f, so, s) := by
        intro n
        induction n with
        | zero => exact fun i => rfl
        | succ n ih =>
          intro i
          unfold r1
          rw [if_pos hs]
          exact ih (i + 1)
      rw [key]
      exact ⟨rfl, h, rfl⟩
    · rw [if_neg hs, if_neg hs]
      by_cases hc : tn f i ≤ 1
      · rw [if_pos hc, if_pos hc]
        exact sorts_r hr0 hr5 n (i + 1) f so s (by omega) h
      · rw [if_neg hc, if_neg hc]
        obtain ⟨h1, h2, h3⟩ := sort_r h (moc f i 3) (show i < 6 by omega) hr0 hr5 4 (Nat.le_refl 4)
        rw [h1]
        obtain ⟨g1, g2, g3⟩ := sorts_r hr0 hr5 n (i + 1) (srR i (moc f i 3) r f 4) (so + 1) (s - 1) (by omega) h2
        exact ⟨g1, g2, by rw [g3, h3]⟩

/-! taking ready cubes of a tone -/
def con (f : Nat → Int32) (i t : Nat) : Int32 := if tn f i ≤ 1 then f (i * 4 + t) else 0
def rem (f : Nat → Int32) (t : Nat) : Nat → Nat → Int
  | 0, _ => 0
  | n + 1, i => (con f i t).toInt + rem f t n (i + 1)
theorem con_b {f : Nat → Int32} (h : trI f) {i t : Nat} (hi : i < 6) (ht : t < 4) : 0 ≤ (con f i t).toInt ∧ (con f i t).toInt ≤ (f (i * 4 + t)).toInt ∧ (con f i t).toInt ≤ 500 := by
  have hc := h.cell hi ht
  unfold con
  split
  · omega
  · rw [i0]; omega
theorem rem_b {f : Nat → Int32} (h : trI f) {t : Nat} (ht : t < 4) : ∀ n i, i + n ≤ 6 → 0 ≤ rem f t n i ∧ rem f t n i ≤ 500 * n
  | 0, i, _ => ⟨Int.le_refl 0, Int.le_refl _⟩
  | n + 1, i, hi => by
    have h1 := con_b h (show i < 6 by omega) ht
    have h2 := rem_b h ht n (i + 1) (by omega)
    unfold rem
    omega
theorem rem_last (f : Nat → Int32) (t : Nat) : ∀ n i, rem f t (n + 1) i = rem f t n i + (con f (i + n) t).toInt
  | 0, i => by
    unfold rem
    unfold rem
    rw [Nat.add_zero]
    omega
  | n + 1, i => by
    have h := rem_last f t n (i + 1)
    show (con f i t).toInt + rem f t (n + 1) (i + 1) = ((con f i t).toInt + rem f t n (i + 1)) + _
    rw [h, show i + 1 + n = i + (n + 1) by omega]
    omega
theorem rpI_t {f : Nat → Int32} (h : trI f) {t : Nat} (ht : t < 4) : ∀ i, i ≤ 6 → (rpI f t i).toInt = rem f t i 0
  | 0, _ => i0
  | i + 1, hi => by
    have ih := rpI_t h ht i (by omega)
    have hb := rem_b h ht i 0 (by omega)
    have hc := con_b h (show i < 6 by omega) ht
    rw [rem_last, Nat.zero_add]
    unfold rpI
    unfold con at hc ⊢
    by_cases q : tn f i ≤ 1
    · rw [if_pos q] at hc ⊢
      rw [if_pos q, ia (by omega) (by omega), ih]
    · rw [if_neg q] at hc ⊢
      rw [if_neg q, ih, i0]
      omega
theorem tn_ne {f : Nat → Int32} {v : Int32} {a b t : Nat} (h : b ≠ a) (ht : t < 4) : tn (upd f (a * 4 + t) v) b = tn f b := by
  have key : ∀ i, i ≤ 4 → tnc (upd f (a * 4 + t) v) b i = tnc f b i := by
    intro i
    induction i with
    | zero => exact fun _ => rfl
    | succ i ih =>
      intro hi
      unfold tnc
      rw [ih (by omega), upd_ne _ _ (by omega)]
  exact key 4 (Nat.le_refl 4)
theorem rem_upd {f : Nat → Int32} {v : Int32} {a t : Nat} (ht : t < 4) : ∀ n i, a < i → rem (upd f (a * 4 + t) v) t n i = rem f t n i
  | 0, _, _ => rfl
  | n + 1, i, hi => by
    unfold rem
    rw [rem_upd ht n (i + 1) (by omega)]
    unfold con
    rw [tn_ne (by omega) ht, upd_ne _ _ (by omega)]
theorem lyA_t {x l : Int32} : (lyA x l).toInt = min x.toInt l.toInt := by
  unfold lyA
  by_cases h : l ≤ x
  · rw [if_pos h]
    have := ile.mp h
    omega
  · rw [if_neg h]
    have := mt ile.mpr h
    omega
theorem take_r {w : Int32} (hw0 : 0 ≤ w.toInt) (hw : w.toInt ≤ 100000) {t : Nat} (ht : t < 4) : ∀ (n i : Nat) (f : Nat → Int32) (g l : Int32), i + n = 6 → trI f → 0 ≤ g.toInt → g.toInt ≤ w.toInt → l.toInt = min (w.toInt - g.toInt) (rem f t n i) → tkR t w n i f g = (lcR t n i f l, g + l) ∧ trI (lcR t n i f l) ∧ sm (lcR t n i f l) 24 = sm f 24 - l.toInt
  | 0, i, f, g, l, _, h, hg0, hg, hl => by
    have hr : rem f t 0 i = 0 := rfl
    have hz : l = 0 := ieq.mpr (by rw [hl, hr, i0]; omega)
    subst hz
    refine ⟨?_, h, ?_⟩
    · show (f, g) = (f, g + 0)
      rw [Int32.add_zero]
    · show sm f 24 = _
      rw [i0]; omega
  | n + 1, i, f, g, l, hi, h, hg0, hg, hl => by
    have hi6 : i < 6 := by omega
    have hc := con_b h hi6 ht
    have hcell := h.cell hi6 ht
    have hrb := rem_b h ht n (i + 1) (by omega)
    have hrr : rem f t (n + 1) i = (con f i t).toInt + rem f t n (i + 1) := rfl
    rw [hrr] at hl
    -- what is taken here
    have hx : (lcH f i t l).toInt = min (con f i t).toInt l.toInt := by
      unfold lcH
      rw [lyA_t]
      rfl
    have hsub : (f (i * 4 + t) - lcH f i t l).toInt = (f (i * 4 + t)).toInt - (lcH f i t l).toInt := is (by omega) (by omega)
    have hls : (l - lcH f i t l).toInt = l.toInt - (lcH f i t l).toInt := is (by omega) (by omega)
    have h' : trI (upd f (i * 4 + t) (f (i * 4 + t) - lcH f i t l)) := h.upd hi6 ht (by omega) (by omega)
    have hgs : (g + lcH f i t l).toInt = g.toInt + (lcH f i t l).toInt := ia (by omega) (by omega)
    have hru : rem (upd f (i * 4 + t) (f (i * 4 + t) - lcH f i t l)) t n (i + 1) = rem f t n (i + 1) := rem_upd ht n (i + 1) (by omega)
    obtain ⟨g1, g2, g3⟩ := take_r hw0 hw ht n (i + 1) (upd f (i * 4 + t) (f (i * 4 + t) - lcH f i t l)) (g + lcH f i t l) (l - lcH f i t l) (by omega) h' (by omega) (by omega) (by omega)
    have hsm : sm (lcR t (n + 1) i f l) 24 = sm f 24 - l.toInt := by
      show sm (lcR t n (i + 1) (upd f (i * 4 + t) (f (i * 4 + t) - lcH f i t l)) (l - lcH f i t l)) 24 = _
      rw [g3, sm_upd (by omega)]
      omega
    refine ⟨?_, g2, hsm⟩
    have hgl : g + lcH f i t l + (l - lcH f i t l) = g + l := by
      refine ieq.mpr ?_
      rw [ia (by omega) (by omega), ia (x := g) (y := l) (by omega) (by omega)]
      omega
    rw [hgl] at g1
    show _ = (lcR t n (i + 1) (upd f (i * 4 + t) (f (i * 4 + t) - lcH f i t l)) (l - lcH f i t l), g + l)
    -- a tray that gives nothing
    have skip : (lcH f i t l).toInt = 0 → tkR t w n (i + 1) f g = (lcR t n (i + 1) (upd f (i * 4 + t) (f (i * 4 + t) - lcH f i t l)) (l - lcH f i t l), g + l) := by
      intro q
      have hz : lcH f i t l = 0 := ieq.mpr (by rw [q, i0])
      rw [← g1, hz, Int32.sub_zero, upd_same, Int32.add_zero]
    unfold tkR
    by_cases q1 : w ≤ g
    · rw [if_pos q1]
      have := ile.mp q1
      have hlz : l = 0 := ieq.mpr (by rw [i0]; omega)
      have hxz : lcH f i t l = 0 := ieq.mpr (by rw [i0]; omega)
      have key : ∀ (n i : Nat) (f : Nat → Int32), i + n = 6 → trI f → lcR t n i f 0 = f := by
        intro n
        induction n with
        | zero => exact fun i f _ _ => rfl
        | succ n ih =>
          intro i f hi h
          have hc := con_b h (show i < 6 by omega) ht
          have hz : lcH f i t 0 = 0 := by
            refine ieq.mpr ?_
            unfold lcH
            rw [lyA_t, i0]
            show min (con f i t).toInt 0 = 0
            omega
          unfold lcR
          rw [hz, Int32.sub_zero, Int32.sub_zero, upd_same]
          exact ih (i + 1) f (by omega) h
      rw [hxz, hlz, Int32.sub_zero, Int32.sub_zero, upd_same, Int32.add_zero, key n (i + 1) f (by omega) h]
    · rw [if_neg q1]
      have q1' := mt ile.mpr q1
      by_cases q2 : f (i * 4 + t) ≤ 0
      · rw [if_pos q2]
        have := ile.mp q2
        rw [i0] at this
        exact skip (by omega)
      · rw [if_neg q2]
        have q2' := mt ile.mpr q2
        rw [i0] at q2'
        by_cases q3 : tn f i = 1
        · rw [if_pos q3]
          have hcf : con f i t = f (i * 4 + t) := if_pos (by omega)
          have hcf' : (con f i t).toInt = (f (i * 4 + t)).toInt := by rw [hcf]
          have hwg : (w - g).toInt = w.toInt - g.toInt := is (by omega) (by omega)
          have hk : tkI f i t w g = lcH f i t l := by
            refine ieq.mpr ?_
            unfold tkI
            by_cases q4 : f (i * 4 + t) < w - g
            · rw [if_pos q4]
              have := ilt.mp q4
              omega
            · rw [if_neg q4]
              have := mt ilt.mpr q4
              omega
          rw [hk, ← Int32.sub_eq_add_neg]
          exact g1
        · rw [if_neg q3]
          have hp := tnc_pos (f := f) (a := i) 4 t ht q2
          have h2 : ¬ tn f i ≤ 1 := by
            unfold tn at q3 ⊢
            omega
          have hcz : con f i t = 0 := if_neg h2
          have : (con f i t).toInt = 0 := by rw [hcz, i0]
          exact skip (by omega)

