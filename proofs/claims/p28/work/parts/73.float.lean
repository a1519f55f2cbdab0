/-! THE PURE HALF, taken over from whole by wip/p28/port2.py -/
/-! THE SHARE and its bits, on both sides: a number from 2^-31 to below 2, or 0, or 1 -/
theorem n64_of {a : UInt64} (h : FP.Core.val64 a ≠ .nan) : vf_n64 a := by
  have h1 := (FP.Core.ne_nan a).mp h
  unfold vf_n64
  rw [UInt64.le_iff_toNat_le, FP.Core.mask_toNat]
  exact h1
theorem val_two : FP.Core.val64 4611686018427387904 = .fin false (2 ^ 52) (-51) := by decide +kernel
theorem val_p52 : FP.Core.val64 4841369599423283200 = .fin false (2 ^ 52) 0 := by decide +kernel
theorem val_one : FP.Core.val64 FP.dconst1 = .fin false (2 ^ 52) (-52) := by decide +kernel
theorem val_zero : FP.Core.val64 FP.dconst0 = .fin false 0 (-1074) := by decide +kernel
theorem qmax_64 : FP.Core.b64.qmax = 971 := by decide
theorem fit64 {s : Bool} {c : Nat} {q : Int} (h1 : 2 ^ 52 ≤ c) (h2 : c < 2 ^ 53) (h3 : -1074 ≤ q) (h4 : q ≤ 971) : FP.Core.fits FP.Core.b64 (.fin s c q) := by
  refine ⟨h2, ?_, ?_, Or.inr ?_⟩
  · rw [FP.Core.qmin_b64]
    exact h3
  · rw [qmax_64]
    exact h4
  · rw [FP.Core.tails_b64]
    exact h1
/-- a normal number from 2^-k to below 2^(1-k) -/
def nrm (k c : Nat) (v : UInt64) : Prop := FP.Core.val64 v = .fin false c (-52 - (k : Int)) ∧ 2 ^ 52 ≤ c ∧ c < 2 ^ 53
theorem nrm.n64 {k c : Nat} {v : UInt64} (h : nrm k c v) : vf_n64 v := n64_of (by rw [h.1]; exact FP.Core.Datum.noConfusion)
theorem nrm_dbl {k c : Nat} {v : UInt64} (hk : k ≤ 60) (h : nrm (k + 1) c v) : nrm k c (FP.dmul v 4611686018427387904) := by
  obtain ⟨hv, h1, h2⟩ := h
  refine ⟨?_, h1, h2⟩
  show FP.Core.val64 (FP.Core.dmul v 4611686018427387904) = _
  rw [FP.Core.val64_dmul, hv, val_two]
  show FP.Core.roundRatio FP.Core.b64 false (c * 2 ^ 52) 1 (-52 - ((k + 1 : Nat) : Int) + -51) = .fin false c (-52 - (k : Int))
  refine FP.Core.roundRatio_exact FP.Core.good_b64 (by decide) (fit64 h1 h2 (by omega) (by omega)) ?_
  rw [show (-52 - ((k + 1 : Nat) : Int) + -51 - (-52 - (k : Int))).toNat = 0 by omega, show (-52 - (k : Int) - (-52 - ((k + 1 : Nat) : Int) + -51)).toNat = 52 by omega, Nat.pow_zero, Nat.mul_one, Nat.mul_one]
theorem cv_lt {x y : Int} (h : x < y) (op) : Op.cmpValue (some (compare x y)) op = -1 := by
  rw [(FP.Core.compare_lt_iff x y).mpr h]
  rfl
theorem cv_ge {x y : Int} (h : y ≤ x) (op) : 0 ≤ Op.cmpValue (some (compare x y)) op := by
  by_cases e : x = y
  · rw [(FP.Core.compare_eq_iff x y).mpr e]
    show (0 : Int32) ≤ 0
    decide
  · rw [(FP.Core.compare_gt_iff x y).mpr (by omega)]
    show (0 : Int32) ≤ 1
    decide
theorem ord_le {c d : Nat} {q r : Int} (h : q ≤ r) : FP.Core.order (.fin false c q) (.fin false d r) = some (compare (c : Int) ((d * 2 ^ (r - q).toNat : Nat) : Int)) := by
  show some (compare (FP.Core.signed false (FP.Core.inUnits c q (min q r))) (FP.Core.signed false (FP.Core.inUnits d r (min q r)))) = _
  rw [show min q r = q by omega]
  show some (compare ((c * 2 ^ (q - q).toNat : Nat) : Int) ((d * 2 ^ (r - q).toNat : Nat) : Int)) = _
  rw [show (q - q).toNat = 0 by omega, Nat.pow_zero, Nat.mul_one]
theorem ord_0 {c : Nat} {q r : Int} (hc : 0 < c) : FP.Core.order (.fin false c q) (.fin false 0 r) = some .gt := by
  show some (compare (FP.Core.signed false (FP.Core.inUnits c q (min q r))) (FP.Core.signed false (FP.Core.inUnits 0 r (min q r)))) = _
  refine congrArg some ((FP.Core.compare_gt_iff _ _).mpr ?_)
  show ((0 * 2 ^ (r - min q r).toNat : Nat) : Int) < ((c * 2 ^ (q - min q r).toNat : Nat) : Int)
  rw [Nat.zero_mul]
  exact Int.ofNat_lt.mpr (Nat.mul_pos hc (Nat.two_pow_pos _))
theorem nrm.cmp1 {k c : Nat} {v : UInt64} (h : nrm k c v) : FP.dcmp v FP.dconst1 = some (compare (c : Int) ((2 ^ 52 * 2 ^ k : Nat) : Int)) := by
  have h2 := ord_le (c := c) (d := 2 ^ 52) (q := -52 - (k : Int)) (r := -52) (by omega)
  rw [show (-52 - (-52 - (k : Int))).toNat = k by omega] at h2
  show FP.Core.order (FP.Core.val64 v) (FP.Core.val64 FP.dconst1) = _
  rw [h.1, val_one]
  exact h2
theorem nrm.cmp2 {k c : Nat} {v : UInt64} (h : nrm k c v) : FP.dcmp v 4611686018427387904 = some (compare (c : Int) ((2 ^ 52 * 2 ^ (k + 1) : Nat) : Int)) := by
  have h2 := ord_le (c := c) (d := 2 ^ 52) (q := -52 - (k : Int)) (r := -51) (by omega)
  rw [show (-51 - (-52 - (k : Int))).toNat = k + 1 by omega] at h2
  show FP.Core.order (FP.Core.val64 v) (FP.Core.val64 4611686018427387904) = _
  rw [h.1, val_two]
  exact h2
theorem nrm.cmp0 {k c : Nat} {v : UInt64} (h : nrm k c v) : FP.dcmp v FP.dconst0 = some .gt := by
  obtain ⟨h1, h2, -⟩ := h
  show FP.Core.order (FP.Core.val64 v) (FP.Core.val64 FP.dconst0) = _
  rw [h1, val_zero]
  exact ord_0 (by omega)
theorem big_k {c : Nat} (h : c < 2 ^ 53) (k : Nat) : (c : Int) < ((2 ^ 52 * 2 ^ (k + 1) : Nat) : Int) := by
  refine Int.ofNat_lt.mpr ?_
  have hp := Nat.two_pow_pos k
  rw [Nat.pow_succ]
  omega
theorem nrm_ge {c : Nat} {v : UInt64} (h : nrm 0 c v) (op) : 0 ≤ Op.cmpValue (FP.dcmp v FP.dconst1) op := by
  rw [h.cmp1]
  refine cv_ge (Int.ofNat_le.mpr ?_) op
  rw [Nat.pow_zero, Nat.mul_one]
  exact h.2.1
theorem nrm_lt {k c : Nat} {v : UInt64} (h : nrm (k + 1) c v) (op) : Op.cmpValue (FP.dcmp v FP.dconst1) op = -1 := by
  rw [h.cmp1]
  exact cv_lt (big_k h.2.2 k) op
theorem nL_s : ∀ n, n < 1024 → Int64.ofNat (n + 1) - 1 = Int64.ofNat n := by decide +kernel
theorem end_r {c : Nat} {w : UInt64} (hw : FP.Core.val64 w = .fin false c (-52)) (h2 : c < 2 ^ 53) : FP.Core.DInt (c : Int) (FP.dmul w 4841369599423283200) := by
  show FP.Core.Whole (c : Int) (FP.Core.val64 (FP.Core.dmul w 4841369599423283200))
  rw [FP.Core.val64_dmul, hw, val_p52]
  refine FP.Core.whole_round FP.Core.good_b64 FP.Core.wide_b64 ?_ ?_
  · show (c : Int).natAbs ≤ 2 ^ 53
    omega
  · show ((c * 2 ^ 52 * 2 ^ (-52 + 0 : Int).toNat : Nat) : Int) = (c : Int) * ((2 ^ (-(-52 + 0 : Int)).toNat : Nat) : Int)
    rw [show (-52 + 0 : Int).toNat = 0 from rfl, show (-(-52 + 0 : Int)).toNat = 52 from rfl, Nat.pow_zero, Nat.mul_one, Int.natCast_mul]
theorem sub_one {c : Nat} (h1 : 2 ^ 52 ≤ c) : FP.Core.exactSum (.fin false c (-52)) (.fin true (2 ^ 52) (-52)) = .fin false (c - 2 ^ 52) (-52) := by
  have hV : FP.Core.sumUnits false c (-52) true (2 ^ 52) (-52) (-52) = ((c - 2 ^ 52 : Nat) : Int) := by
    show ((c * 2 ^ ((-52 : Int) - (-52)).toNat : Nat) : Int) + -((2 ^ 52 * 2 ^ ((-52 : Int) - (-52)).toNat : Nat) : Int) = _
    rw [show ((-52 : Int) - (-52)).toNat = 0 from rfl, Nat.pow_zero, Nat.mul_one, Nat.mul_one]
    omega
  have hs : FP.Core.sumSign false true ((c - 2 ^ 52 : Nat) : Int) = false := by
    unfold FP.Core.sumSign
    split
    · rfl
    · exact decide_eq_false (by omega)
  show FP.Core.Datum.fin (FP.Core.sumSign false true (FP.Core.sumUnits false c (-52) true (2 ^ 52) (-52) (min (-52) (-52)))) (FP.Core.sumUnits false c (-52) true (2 ^ 52) (-52) (min (-52) (-52))).natAbs (min (-52) (-52)) = _
  rw [show min (-52 : Int) (-52) = -52 from rfl, hV, hs, Int.natAbs_natCast]
theorem pw_1 {x i n A B : Nat} (h : x * 2 ^ (n + (A + B)) = i * 2 ^ B) : x * 2 ^ A * 2 ^ n = i := by
  refine Nat.eq_of_mul_eq_mul_right (Nat.two_pow_pos B) ?_
  rw [← h, Nat.pow_add, Nat.pow_add]
  ac_rfl
theorem pw_2 {x i n m A B : Nat} (hm : m + n = A + B) (h : x * 2 ^ m = i * 2 ^ B) : x * 2 ^ A = i * 2 ^ n := by
  refine Nat.eq_of_mul_eq_mul_right (Nat.two_pow_pos m) ?_
  have e : i * 2 ^ n * 2 ^ m = i * 2 ^ B * 2 ^ A := by
    rw [Nat.mul_assoc, ← Nat.pow_add, Nat.mul_assoc, ← Nat.pow_add, show n + m = B + A by omega]
  rw [e, ← h]
  ac_rfl
theorem end_s {c : Nat} {w : UInt64} (hw : FP.Core.val64 w = .fin false c (-52)) (h1 : 2 ^ 52 ≤ c) (h2 : c < 2 ^ 53) : vf_n64 (FP.dsub w FP.dconst1) ∧ FP.Core.DInt ((c - 2 ^ 52 : Nat) : Int) (FP.dmul (FP.dsub w FP.dconst1) 4841369599423283200) := by
  have hs : FP.Core.val64 (FP.Core.dsub w FP.dconst1) = FP.Core.round FP.Core.b64 (.fin false (c - 2 ^ 52) (-52)) := by
    rw [FP.Core.val64_dsub, hw, val_one]
    exact congrArg (FP.Core.round FP.Core.b64) (sub_one h1)
  obtain ⟨c', q', e1, e2⟩ := FP.Core.round_exact FP.Core.good_b64 false (c := c - 2 ^ 52) (q := -52) (by show c - 2 ^ 52 < 2 ^ 53; omega) (by rw [FP.Core.qmin_b64]; decide) (by rw [qmax_64]; decide)
  rw [e1] at hs
  have hf := FP.Core.val64_fits (FP.Core.dsub w FP.dconst1)
  rw [hs] at hf
  obtain ⟨-, hq, -, -⟩ := hf
  rw [FP.Core.qmin_b64] at hq e2
  obtain ⟨B, hB⟩ : ∃ B : Nat, B = 1022 := ⟨_, rfl⟩
  have iU : ∀ (c : Nat) (q e : Int), FP.Core.inUnits c q e = c * 2 ^ (q - e).toNat := fun _ _ _ => rfl
  have e3 := e2
  rw [iU, iU, show ((-52 : Int) - -1074).toNat = B by omega] at e3
  clear e2
  refine ⟨n64_of (by rw [show FP.Core.val64 (FP.dsub w FP.dconst1) = _ from hs]; exact FP.Core.Datum.noConfusion), ?_⟩
  show FP.Core.Whole _ (FP.Core.val64 (FP.Core.dmul (FP.Core.dsub w FP.dconst1) 4841369599423283200))
  rw [FP.Core.val64_dmul, hs, val_p52]
  refine FP.Core.whole_round FP.Core.good_b64 FP.Core.wide_b64 ?_ ?_
  · show ((c - 2 ^ 52 : Nat) : Int).natAbs ≤ 2 ^ 53
    omega
  · show ((c' * 2 ^ 52 * 2 ^ (q' + 0).toNat : Nat) : Int) = ((c - 2 ^ 52 : Nat) : Int) * ((2 ^ (-(q' + 0)).toNat : Nat) : Int)
    rw [Int.add_zero, ← Int.natCast_mul]
    refine congrArg (fun n : Nat => (n : Int)) ?_
    generalize c - 2 ^ 52 = i at e3 ⊢
    by_cases hq0 : 0 ≤ q'
    · rw [show (q' - -1074).toNat = q'.toNat + (52 + B) by omega] at e3
      rw [show (-q').toNat = 0 by omega, Nat.pow_zero, Nat.mul_one]
      exact pw_1 e3
    · rw [show q'.toNat = 0 by omega, Nat.pow_zero, Nat.mul_one]
      exact pw_2 (m := (q' - -1074).toNat) (B := B) (by omega) e3
/-! THE SHARE's quotient: laid by cut, laid not above cut -/
theorem cross {c1 c2 m n a b c d X Y : Nat} (h1 : c1 * 2 ^ a = m * 2 ^ b) (h2 : c2 * 2 ^ c = n * 2 ^ d) (h : X + (b + c) = Y + (a + d)) : c1 * n * 2 ^ X = m * c2 * 2 ^ Y := by
  refine Nat.eq_of_mul_eq_mul_right (Nat.two_pow_pos (a + d)) ?_
  have e1 : c1 * n * 2 ^ X * 2 ^ (a + d) = (c1 * 2 ^ a) * (n * 2 ^ d) * 2 ^ X := by
    rw [Nat.pow_add]
    ac_rfl
  have e2 : m * c2 * 2 ^ Y * 2 ^ (a + d) = m * c2 * 2 ^ (Y + (a + d)) := by rw [Nat.mul_assoc, ← Nat.pow_add]
  rw [e1, e2, h1, ← h2, ← h, Nat.pow_add, Nat.pow_add]
  ac_rfl
/-- the quotient is that of the whole numbers, rounded -/
theorem quo_r {m n : Int32} (hn : 0 < n.toInt) (hm : 0 < m.toInt) : FP.Core.val64 (FP.ddiv (FP.i2d m) (FP.i2d n)) = FP.Core.roundRatio FP.Core.b64 false m.toInt.natAbs n.toInt.natAbs 0 := by
  have w1 : FP.Core.Whole m.toInt (FP.Core.val64 (FP.Core.i2d m)) := FP.Core.i2d_int m
  have w2 : FP.Core.Whole n.toInt (FP.Core.val64 (FP.Core.i2d n)) := FP.Core.i2d_int n
  obtain ⟨s1, c1, q1, e1⟩ := FP.Core.i2d_fin m
  obtain ⟨s2, c2, q2, e2⟩ := FP.Core.i2d_fin n
  rw [e1] at w1
  rw [e2] at w2
  have t1 : s1 = false := (FP.Core.whole_sign w1 (by omega)).trans (decide_eq_false (by omega))
  have t2 : s2 = false := (FP.Core.whole_sign w2 (by omega)).trans (decide_eq_false (by omega))
  have a1 := FP.Core.whole_natAbs w1
  have a2 := FP.Core.whole_natAbs w2
  have z2 : ¬ c2 = 0 := fun q => absurd ((FP.Core.whole_zero w2).mp q) (by omega)
  show FP.Core.val64 (FP.Core.ddiv (FP.Core.i2d m) (FP.Core.i2d n)) = _
  rw [FP.Core.val64_ddiv, e1, e2, t1, t2]
  show (if c2 = 0 then (if c1 = 0 then FP.Core.Datum.nan else FP.Core.Datum.inf (false != false)) else FP.Core.roundRatio FP.Core.b64 (false != false) c1 c2 (q1 - q2)) = _
  rw [if_neg z2]
  show FP.Core.roundRatio FP.Core.b64 false c1 c2 (q1 - q2) = _
  exact FP.Core.roundRatio_congr (Nat.pos_of_ne_zero z2) (by omega) (cross a1 a2 (by omega))
theorem zmag_f (s : Bool) (c : Nat) (q : Int) : FP.Core.zmag FP.Core.b64 (.fin s c q) = c * 2 ^ (q - FP.Core.b64.qmin).toNat := rfl
theorem zmag_i (s : Bool) : FP.Core.zmag FP.Core.b64 (.inf s) = FP.Core.b64.tails * 2 ^ (FP.Core.b64.exps - 2) := rfl
theorem inU (c : Nat) (q e : Int) : FP.Core.inUnits c q e = c * 2 ^ (q - e).toNat := rfl
theorem exps_64 : FP.Core.b64.exps - 2 = 2046 := by decide
theorem share_n {A B : Nat} (hA : 1 ≤ A) (hAB : A ≤ B) (hB : B ≤ 2 ^ 31) {x : UInt64} (hx : FP.Core.val64 x = FP.Core.roundRatio FP.Core.b64 false A B 0) : ∃ k c, k ≤ 60 ∧ nrm k c x := by
  obtain ⟨K, hK⟩ : ∃ K : Nat, K = 991 := ⟨_, rfl⟩
  have hB0 : 0 < B := by omega
  have hP := Nat.two_pow_pos K
  have V1 : FP.Core.zmag FP.Core.b64 (.fin false (2 ^ 52) (-52)) = 2 ^ 52 * 2 ^ (K + 31) := by
    rw [zmag_f, FP.Core.qmin_b64, show ((-52 : Int) - -1074).toNat = K + 31 by omega]
  have V2 : FP.Core.zmag FP.Core.b64 (.fin false (2 ^ 52) (-83)) = 2 ^ 52 * 2 ^ K := by
    rw [zmag_f, FP.Core.qmin_b64, show ((-83 : Int) - -1074).toNat = K by omega]
  have hA2 : FP.Core.inUnits A 0 FP.Core.b64.qmin = A * (2 ^ K * 2 ^ 83) := by
    rw [inU, FP.Core.qmin_b64, show ((0 : Int) - -1074).toNat = K + 83 by omega, Nat.pow_add 2 K 83]
  have u := FP.Core.zmag_roundRatio_le FP.Core.good_b64 (s := false) (A := A) (B := B) (e := 0) (e0 := FP.Core.b64.qmin) (V := .fin false (2 ^ 52) (-52)) hB0 (fit64 (by decide) (by decide) (by decide) (by decide)) FP.Core.Datum.noConfusion (Int.le_refl _) (by rw [FP.Core.qmin_b64]; decide) (by
    rw [V1, hA2, Int.sub_self, show (0 : Int).toNat = 0 from rfl, Nat.pow_zero, Nat.mul_one, Nat.pow_add 2 K 31, show (2 : Nat) ^ 83 = 2 ^ 52 * 2 ^ 31 from Nat.pow_add 2 52 31]
    generalize 2 ^ K = P
    calc A * (P * (2 ^ 52 * 2 ^ 31)) = 2 ^ 52 * (P * 2 ^ 31) * A := by ac_rfl
      _ ≤ 2 ^ 52 * (P * 2 ^ 31) * B := Nat.mul_le_mul_left _ hAB)
  have l := FP.Core.zmag_roundRatio_ge FP.Core.good_b64 (s := false) (A := A) (B := B) (e := 0) (e0 := FP.Core.b64.qmin) (V := .fin false (2 ^ 52) (-83)) hB0 (fit64 (by decide) (by decide) (by decide) (by decide)) (Int.le_refl _) (by rw [FP.Core.qmin_b64]; decide) (by
    rw [V2, hA2, Int.sub_self, show (0 : Int).toNat = 0 from rfl, Nat.pow_zero, Nat.mul_one, show (2 : Nat) ^ 83 = 2 ^ 52 * 2 ^ 31 from Nat.pow_add 2 52 31]
    generalize 2 ^ K = P
    calc 2 ^ 52 * P * B ≤ 2 ^ 52 * P * (A * 2 ^ 31) := Nat.mul_le_mul_left _ (by omega)
      _ = A * (P * (2 ^ 52 * 2 ^ 31)) := by ac_rfl)
  rw [V1] at u
  rw [V2] at l
  have hfit := FP.Core.roundRatio_fits FP.Core.good_b64 false A hB0 0
  rcases FP.Core.roundRatio_cases FP.Core.b64 false A B 0 with ⟨c, q, hR⟩ | hR
  · rw [hR] at u l hfit hx
    obtain ⟨f1, f2, -, f4⟩ := hfit
    have f1' : c < 2 ^ 53 := f1
    rw [FP.Core.qmin_b64] at f2 f4
    rw [zmag_f, FP.Core.qmin_b64] at u l
    have l2 : K ≤ (q - -1074).toNat := by
      have h1 : 2 ^ 52 * 2 ^ K < 2 ^ 53 * 2 ^ (q - -1074).toNat := Nat.lt_of_le_of_lt l (Nat.mul_lt_mul_of_pos_right f1' (Nat.two_pow_pos _))
      have h2 : 2 ^ K < 2 ^ ((q - -1074).toNat + 1) := by
        rw [Nat.pow_succ]
        generalize 2 ^ (q - -1074).toNat = m at h1 ⊢
        generalize 2 ^ K = P at h1 ⊢
        omega
      have := (Nat.pow_lt_pow_iff_right (by decide : 1 < 2)).mp h2
      omega
    have hc : 2 ^ 52 ≤ c := by
      rcases f4 with f4 | f4
      · omega
      · rw [FP.Core.tails_b64] at f4
        exact f4
    have u2 : (q - -1074).toNat ≤ K + 31 := by
      have h1 : 2 ^ 52 * 2 ^ (q - -1074).toNat ≤ 2 ^ 52 * 2 ^ (K + 31) := Nat.le_trans (Nat.mul_le_mul_right _ hc) u
      exact (Nat.pow_le_pow_iff_right (by decide : 1 < 2)).mp (Nat.le_of_mul_le_mul_left h1 (Nat.two_pow_pos 52))
    refine ⟨(-52 - q).toNat, c, by omega, ?_, hc, f1'⟩
    rw [hx, show (-52 - ((-52 - q).toNat : Int)) = q by omega]
  · rw [hR, zmag_i, FP.Core.tails_b64] at u
    have h2 := (Nat.pow_le_pow_iff_right (by decide : 1 < 2)).mp (Nat.le_of_mul_le_mul_left u (Nat.two_pow_pos 52))
    rw [exps_64] at h2
    omega
/-- a quotient of 0 -/
theorem share_0 {n : Int32} (hn : 0 < n.toInt) : FP.ddiv (FP.i2d 0) (FP.i2d n) = FP.dconst0 := by
  have w2 : FP.Core.Whole n.toInt (FP.Core.val64 (FP.Core.i2d n)) := FP.Core.i2d_int n
  obtain ⟨s2, c2, q2, e2⟩ := FP.Core.i2d_fin n
  rw [e2] at w2
  have t2 : s2 = false := (FP.Core.whole_sign w2 (by omega)).trans (decide_eq_false (by omega))
  have z2 : ¬ c2 = 0 := fun q => absurd ((FP.Core.whole_zero w2).mp q) (by omega)
  have e1 : FP.Core.val64 (FP.Core.i2d 0) = .fin false 0 (-1074) := by decide +kernel
  have h : FP.Core.val64 (FP.Core.ddiv (FP.Core.i2d 0) (FP.Core.i2d n)) = .fin false 0 (-1074) := by
    rw [FP.Core.val64_ddiv, e1, e2, t2]
    show (if c2 = 0 then (if (0 : Nat) = 0 then FP.Core.Datum.nan else FP.Core.Datum.inf (false != false)) else FP.Core.roundRatio FP.Core.b64 (false != false) 0 c2 (-1074 - q2)) = _
    rw [if_neg z2]
    show (if (0 : Nat) = 0 then FP.Core.Datum.fin false 0 FP.Core.b64.qmin else _) = _
    rw [if_pos rfl, FP.Core.qmin_b64]
  refine FP.Core.val64_inj ?_ (h.trans val_zero.symm)
  rw [h]
  exact FP.Core.Datum.noConfusion
theorem z_mul : FP.dmul FP.dconst0 4611686018427387904 = FP.dconst0 := by decide +kernel
theorem z_n64 : vf_n64 FP.dconst0 := n64_of (by rw [val_zero]; exact FP.Core.Datum.noConfusion)
theorem sum4_i {f : Nat → Int32} (h : ∀ t, t < 4 → 0 ≤ (f t).toInt) (hb : sm f 4 ≤ 2000000) : (sum4 f).toInt = sm f 4 := by
  have h0 := h 0 (by omega)
  have h1 := h 1 (by omega)
  have h2 := h 2 (by omega)
  have h3 := h 3 (by omega)
  have e : sm f 4 = 0 + (f 0).toInt + (f 1).toInt + (f 2).toInt + (f 3).toInt := rfl
  rw [e] at hb ⊢
  unfold sum4
  have a0 : (0 + f 0).toInt = (f 0).toInt := by rw [Int32.zero_add]
  have a1 : (0 + f 0 + f 1).toInt = (f 0).toInt + (f 1).toInt := by rw [ia (by omega) (by omega), a0]
  have a2 : (0 + f 0 + f 1 + f 2).toInt = (f 0).toInt + (f 1).toInt + (f 2).toInt := by rw [ia (by omega) (by omega), a1]
  rw [ia (by omega) (by omega), a2]
  omega
