/-! THE SHARE's quotient: laid by cut, laid not above cut -/
theorem cross {c1 c2 m n a b c d X Y : Nat} (h1 : c1 * 2 ^ a = m * 2 ^ b) (h2 : c2 * 2 ^ c = n * 2 ^ d) (h : X + (b + c) = Y + (a + d)) : c1 * n * 2 ^ X = m * c2 * 2 ^ Y := by
  refine Nat.eq_of_mul_eq_mul_right (Nat.two_pow_pos (a + d)) ?_
  have e1 : c1 * n * 2 ^ X * 2 ^ (a + d) = (c1 * 2 ^ a) * (n * 2 ^ d) * 2 ^ X := by
    rw [Nat.pow_add]
    ac_rfl
  have e2 : m * c2 * 2 ^ Y * 2 ^ (a + d) = m * c2 * 2 ^ (Y + (a + d)) := by rw [Nat.mul_assoc, ← Nat.pow_add]
  rw [e1, e2, h1, ← h2, ← h, Nat.pow_add, Nat.pow_add]
  ac_rfl
/-- the quotient is that of the whole numbers, rounded -/
theorem quo_r {m n : Int32} (hn : 0 < n.toInt) (hm : 0 < m.toInt) : FP.Core.val64 (FP.ddiv (FP.i2d m) (FP.i2d n)) = FP.Core.roundRatio FP.Core.b64 false m.toInt.natAbs n.toInt.natAbs 0 := by
  have w1 : FP.Core.Whole m.toInt (FP.Core.val64 (FP.Core.i2d m)) := FP.Core.i2d_int m
  have w2 : FP.Core.Whole n.toInt (FP.Core.val64 (FP.Core.i2d n)) := FP.Core.i2d_int n
  obtain ⟨s1, c1, q1, e1⟩ := FP.Core.i2d_fin m
  obtain ⟨s2, c2, q2, e2⟩ := FP.Core.i2d_fin n
  rw [e1] at w1
  rw [e2] at w2
  have t1 : s1 = false := (FP.Core.whole_sign w1 (by omega)).trans (decide_eq_false (by omega))
  have t2 : s2 = false := (FP.Core.whole_sign w2 (by omega)).trans (decide_eq_false (by omega))
  have a1 := FP.Core.whole_natAbs w1
  have a2 := FP.Core.whole_natAbs w2
  have z2 : ¬ c2 = 0 := fun q => absurd ((FP.Core.whole_zero w2).mp q) (by omega)
  show FP.Core.val64 (FP.Core.ddiv (FP.Core.i2d m) (FP.Core.i2d n)) = _
  rw [FP.Core.val64_ddiv, e1, e2, t1, t2]
  show (if c2 = 0 then (if c1 = 0 then FP.Core.Datum.nan else FP.Core.Datum.inf (false != false)) else FP.Core.roundRatio FP.Core.b64 (false != false) c1 c2 (q1 - q2)) = _
  rw [if_neg z2]
  show FP.Core.roundRatio FP.Core.b64 false c1 c2 (q1 - q2) = _
  exact FP.Core.roundRatio_congr (Nat.pos_of_ne_zero z2) (by omega) (cross a1 a2 (by omega))
theorem zmag_f (s : Bool) (c : Nat) (q : Int) : FP.Core.zmag FP.Core.b64 (.fin s c q) = c * 2 ^ (q - FP.Core.b64.qmin).toNat := rfl
theorem zmag_i (s : Bool) : FP.Core.zmag FP.Core.b64 (.inf s) = FP.Core.b64.tails * 2 ^ (FP.Core.b64.exps - 2) := rfl
theorem inU (c : Nat) (q e : Int) : FP.Core.inUnits c q e = c * 2 ^ (q - e).toNat := rfl
theorem exps_64 : FP.Core.b64.exps - 2 = 2046 := by decide
theorem share_n {A B : Nat} (hA : 1 ≤ A) (hAB : A ≤ B) (hB : B ≤ 2 ^ 31) {x : UInt64} (hx : FP.Core.val64 x = FP.Core.roundRatio FP.Core.b64 false A B 0) : ∃ k c, k ≤ 60 ∧ nrm k c x := by
  obtain ⟨K, hK⟩ : ∃ K : Nat, K = 991 := ⟨_, rfl⟩
  have hB0 : 0 < B := by omega
  have hP := Nat.two_pow_pos K
  have V1 : FP.Core.zmag FP.Core.b64 (.fin false (2 ^ 52) (-52)) = 2 ^ 52 * 2 ^ (K + 31) := by
    rw [zmag_f, FP.Core.qmin_b64, show ((-52 : Int) - -1074).toNat = K + 31 by omega]
  have V2 : FP.Core.zmag FP.Core.b64 (.fin false (2 ^ 52) (-83)) = 2 ^ 52 * 2 ^ K := by
    rw [zmag_f, FP.Core.qmin_b64, show ((-83 : Int) - -1074).toNat = K by omega]
  have hA2 : FP.Core.inUnits A 0 FP.Core.b64.qmin = A * (2 ^ K * 2 ^ 83) := by
    rw [inU, FP.Core.qmin_b64, show ((0 : Int) - -1074).toNat = K + 83 by omega, Nat.pow_add 2 K 83]
  have u := FP.Core.zmag_roundRatio_le FP.Core.good_b64 (s := false) (A := A) (B := B) (e := 0) (e0 := FP.Core.b64.qmin) (V := .fin false (2 ^ 52) (-52)) hB0 (fit64 (by decide) (by decide) (by decide) (by decide)) FP.Core.Datum.noConfusion (Int.le_refl _) (by rw [FP.Core.qmin_b64]; decide) (by
    rw [V1, hA2, Int.sub_self, show (0 : Int).toNat = 0 from rfl, Nat.pow_zero, Nat.mul_one, Nat.pow_add 2 K 31, show (2 : Nat) ^ 83 = 2 ^ 52 * 2 ^ 31 from Nat.pow_add 2 52 31]
    generalize 2 ^ K = P
    calc A * (P * (2 ^ 52 * 2 ^ 31)) = 2 ^ 52 * (P * 2 ^ 31) * A := by ac_rfl
      _ ≤ 2 ^ 52 * (P * 2 ^ 31) * B := Nat.mul_le_mul_left _ hAB)
  have l := FP.Core.zmag_roundRatio_ge FP.Core.good_b64 (s := false) (A := A) (B := B) (e := 0) (e0 := FP.Core.b64.qmin) (V := .fin false (2 ^ 52) (-83)) hB0 (fit64 (by decide) (by decide) (by decide) (by decide)) (Int.le_refl _) (by rw [FP.Core.qmin_b64]; decide) (by
    rw [V2, hA2, Int.sub_self, show (0 : Int).toNat = 0 from rfl, Nat.pow_zero, Nat.mul_one, show (2 : Nat) ^ 83 = 2 ^ 52 * 2 ^ 31 from Nat.pow_add 2 52 31]
    generalize 2 ^ K = P
    calc 2 ^ 52 * P * B ≤ 2 ^ 52 * P * (A * 2 ^ 31) := Nat.mul_le_mul_left _ (by omega)
      _ = A * (P * (2 ^ 52 * 2 ^ 31)) := by ac_rfl)
  rw [V1] at u
  rw [V2] at l
  have hfit := FP.Core.roundRatio_fits FP.Core.good_b64 false A hB0 0
  rcases FP.Core.roundRatio_cases FP.Core.b64 false A B 0 with ⟨c, q, hR⟩ | hR
  · rw [hR] at u l hfit hx
    obtain ⟨f1, f2, -, f4⟩ := hfit
    have f1' : c < 2 ^ 53 := f1
    rw [FP.Core.qmin_b64] at f2 f4
    rw [zmag_f, FP.Core.qmin_b64] at u l
    have l2 : K ≤ (q - -1074).toNat := by
      have h1 : 2 ^ 52 * 2 ^ K < 2 ^ 53 * 2 ^ (q - -1074).toNat := Nat.lt_of_le_of_lt l (Nat.mul_lt_mul_of_pos_right f1' (Nat.two_pow_pos _))
      have h2 : 2 ^ K < 2 ^ ((q - -1074).toNat + 1) := by
        rw [Nat.pow_succ]
        generalize 2 ^ (q - -1074).toNat = m at h1 ⊢
        generalize 2 ^ K = P at h1 ⊢
        omega
      have := (Nat.pow_lt_pow_iff_right (by decide : 1 < 2)).mp h2
      omega
    have hc : 2 ^ 52 ≤ c := by
      rcases f4 with f4 | f4
      · omega
      · rw [FP.Core.tails_b64] at f4
        exact f4
    have u2 : (q - -1074).toNat ≤ K + 31 := by
      have h1 : 2 ^ 52 * 2 ^ (q - -1074).toNat ≤ 2 ^ 52 * 2 ^ (K + 31) := Nat.le_trans (Nat.mul_le_mul_right _ hc) u
      exact (Nat.pow_le_pow_iff_right (by decide : 1 < 2)).mp (Nat.le_of_mul_le_mul_left h1 (Nat.two_pow_pos 52))
    refine ⟨(-52 - q).toNat, c, by omega, ?_, hc, f1'⟩
    rw [hx, show (-52 - ((-52 - q).toNat : Int)) = q by omega]
  · rw [hR, zmag_i, FP.Core.tails_b64] at u
    have h2 := (Nat.pow_le_pow_iff_right (by decide : 1 < 2)).mp (Nat.le_of_mul_le_mul_left u (Nat.two_pow_pos 52))
    rw [exps_64] at h2
    omega
/-- a quotient of 0 -/
theorem share_0 {n : Int32} (hn : 0 < n.toInt) : FP.ddiv (FP.i2d 0) (FP.i2d n) = FP.dconst0 := by
  have w2 : FP.Core.Whole n.toInt (FP.Core.val64 (FP.Core.i2d n)) := FP.Core.i2d_int n
  obtain ⟨s2, c2, q2, e2⟩ := FP.Core.i2d_fin n
  rw [e2] at w2
  have t2 : s2 = false := (FP.Core.whole_sign w2 (by omega)).trans (decide_eq_false (by omega))
  have z2 : ¬ c2 = 0 := fun q => absurd ((FP.Core.whole_zero w2).mp q) (by omega)
  have e1 : FP.Core.val64 (FP.Core.i2d 0) = .fin false 0 (-1074) := by decide +kernel
  have h : FP.Core.val64 (FP.Core.ddiv (FP.Core.i2d 0) (FP.Core.i2d n)) = .fin false 0 (-1074) := by
    rw [FP.Core.val64_ddiv, e1, e2, t2]
    show (if c2 = 0 then (if (0 : Nat) = 0 then FP.Core.Datum.nan else FP.Core.Datum.inf (false != false)) else FP.Core.roundRatio FP.Core.b64 (false != false) 0 c2 (-1074 - q2)) = _
    rw [if_neg z2]
    show (if (0 : Nat) = 0 then FP.Core.Datum.fin false 0 FP.Core.b64.qmin else _) = _
    rw [if_pos rfl, FP.Core.qmin_b64]
  refine FP.Core.val64_inj ?_ (h.trans val_zero.symm)
  rw [h]
  exact FP.Core.Datum.noConfusion
theorem z_mul : FP.dmul FP.dconst0 4611686018427387904 = FP.dconst0 := by decide +kernel
theorem z_n64 : vf_n64 FP.dconst0 := n64_of (by rw [val_zero]; exact FP.Core.Datum.noConfusion)
theorem boK_0 : ∀ n, boK n FP.dconst0 ∧ (boL n FP.dconst0).1 = FP.dconst0
  | 0 => ⟨trivial, rfl⟩
  | n + 1 => by
    obtain ⟨a, b⟩ := boK_0 n
    have hc : Op.cmpValue (FP.dcmp FP.dconst0 FP.dconst1) .g < 0 := by decide +kernel
    have e : boL (n + 1) FP.dconst0 = boL n (FP.dmul FP.dconst0 4611686018427387904) := if_pos hc
    refine ⟨fun _ => ?_, ?_⟩
    · show vf_n64 (FP.dmul FP.dconst0 4611686018427387904) ∧ boK n (FP.dmul FP.dconst0 4611686018427387904)
      rw [z_mul]
      exact ⟨z_n64, a⟩
    · rw [e, z_mul]
      exact b
theorem bitK_0 : bitK FP.dconst0 := by
  obtain ⟨a, b⟩ := boK_0 1022
  unfold bitK
  rw [b]
  exact ⟨a, n64_of (by decide +kernel), n64_of (by decide +kernel)⟩
theorem sum4_i {f : Nat → Int32} (h : ∀ t, t < 4 → 0 ≤ (f t).toInt) (hb : sm f 4 ≤ 2000000) : (sum4 f).toInt = sm f 4 := by
  have h0 := h 0 (by omega)
  have h1 := h 1 (by omega)
  have h2 := h 2 (by omega)
  have h3 := h 3 (by omega)
  have e : sm f 4 = 0 + (f 0).toInt + (f 1).toInt + (f 2).toInt + (f 3).toInt := rfl
  rw [e] at hb ⊢
  unfold sum4
  have a0 : (0 + f 0).toInt = (f 0).toInt := by rw [Int32.zero_add]
  have a1 : (0 + f 0 + f 1).toInt = (f 0).toInt + (f 1).toInt := by rw [ia (by omega) (by omega), a0]
  have a2 : (0 + f 0 + f 1 + f 2).toInt = (f 0).toInt + (f 1).toInt + (f 2).toInt := by rw [ia (by omega) (by omega), a1]
  rw [ia (by omega) (by omega), a2]
  omega
/-- what both sides ask of the quotient, and the bits alike -/
theorem share_r {j : Nat} (hj : j < 512) {DC D : gDom} (h : RelD j DC D) : lshV DC = shV D ∧ lshK DC ∧ (¬ sum4 (dCu DC) < 1 → vf_n64 (FP.ddiv (FP.i2d (sum4 (dLa DC))) (FP.i2d (sum4 (dCu DC))))) ∧ (¬ sum4 (dCu D) = 0 → vf_n64 (FP.ddiv (FP.i2d (sum4 (dLa D))) (FP.i2d (sum4 (dCu D))))) ∧ bitV (lshV DC) = brV 60 (shV D) ∧ (¬ Op.cmpValue (FP.dcmp (shV D) FP.dconst0) .l = 0 → brQ 60 (shV D)) := by
  obtain ⟨g, eg⟩ := h.eq
  obtain ⟨-, hDI, -, -⟩ := h
  obtain ⟨b1, b2, b3, b4, -⟩ := hDI.big
  have hco := hDI.co
  have eC : (sum4 (dCu D)).toInt = sm (dCu D) 4 := sum4_i (fun t ht => (hDI.cu t ht).1) (by omega)
  have eL : (sum4 (dLa D)).toInt = sm (dLa D) 4 := sum4_i hDI.la (by omega)
  have dC1 : dCu DC = dCu D := by rw [eg]; rfl
  have dL1 : dLa DC = dLa D := by rw [eg]; rfl
  have hc0 : 0 ≤ (sum4 (dCu D)).toInt := by omega
  have hl0 : 0 ≤ (sum4 (dLa D)).toInt := by omega
  have hlc : (sum4 (dLa D)).toInt ≤ (sum4 (dCu D)).toInt := by omega
  have hc9 : (sum4 (dCu D)).toInt ≤ 2000000 := by omega
  unfold lshK lshV shV
  rw [dC1, dL1]
  generalize sum4 (dCu D) = cu at hc0 hlc hc9 ⊢
  generalize sum4 (dLa D) = la at hl0 hlc ⊢
  by_cases hz : cu = 0
  · have hlt : cu < 1 := by rw [hz]; decide
    have q1 : bitV FP.dconst1 = brV 60 FP.dconst1 ∧ bitK FP.dconst1 ∧ brQ 60 FP.dconst1 := bits_r (k := 0) (c := 2 ^ 52) (by decide) ⟨val_one, by decide, by decide⟩
    rw [if_pos hlt, if_pos hz]
    exact ⟨rfl, ⟨fun q => absurd hlt q, q1.2.1⟩, fun q => absurd hlt q, fun q => absurd hz q, q1.1, fun _ => q1.2.2⟩
  · have hcp : 0 < cu.toInt := by
      have : ¬ cu.toInt = 0 := fun q => hz (ieq.mpr (by rw [q, i0]))
      omega
    have hnl : ¬ cu < 1 := by
      rw [ilt, show (1 : Int32).toInt = 1 from rfl]
      omega
    rw [if_neg hnl, if_neg hz]
    by_cases hl : la = 0
    · have e0 := share_0 hcp
      have q0 : Op.cmpValue (FP.dcmp FP.dconst0 FP.dconst0) .g = 0 ∧ Op.cmpValue (FP.dcmp FP.dconst0 FP.dconst0) .l = 0 := by decide +kernel
      rw [hl, e0]
      have v1 : bitV FP.dconst0 = 0 := if_neg (by rw [q0.1]; decide)
      have v2 : brV 60 FP.dconst0 = 0 := if_pos q0.2
      exact ⟨rfl, ⟨fun _ => z_n64, bitK_0⟩, fun _ => z_n64, fun _ => z_n64, by rw [v1, v2], fun q => absurd q0.2 q⟩
    · have hlp : 0 < la.toInt := by
        have : ¬ la.toInt = 0 := fun q => hl (ieq.mpr (by rw [q, i0]))
        omega
      obtain ⟨k, c, hk, hn⟩ := share_n (A := la.toInt.natAbs) (B := cu.toInt.natAbs) (by omega) (by omega) (by omega) (quo_r hcp hlp)
      obtain ⟨r1, r2, r3⟩ := bits_r hk hn
      exact ⟨rfl, ⟨fun _ => hn.n64, r2⟩, fun _ => hn.n64, fun _ => hn.n64, r1, fun _ => r3⟩
