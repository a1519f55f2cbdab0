/-! THE REFERENCE: its row z (and its saved rows) read as domes. Printed by wip/whole/model.py -/
def zS (D : gDom) (j : Nat) : Int32 := match j with
  | 0 => dDy D
  | 1 => dDn D
  | 2 => dLt D
  | 3 => dLd D
  | _ => dSo D
def zN (D : gDom) (j : Nat) : Int32 := match j with
  | 0 => dC D
  | _ => nI (dSz D)
/-- the reference's row: sheets, trays, settings, day .. sorted, cut, swept, laid, next number, how many, sections -/
def zD (D : gDom) (i : Nat) : Int32 := cond (Nat.blt i 4) (dSh D i) (cond (Nat.blt i 28) (dTr D (i - 4)) (cond (Nat.blt i 34) (dSt D (i - 28)) (cond (Nat.blt i 39) (zS D (i - 34)) (cond (Nat.blt i 43) (dCu D (i - 39)) (cond (Nat.blt i 47) (dSw D (i - 43)) (cond (Nat.blt i 51) (dLa D (i - 47)) (cond (Nat.blt i 53) (zN D (i - 51)) (cond (Nat.blt i 103) (dG D (i - 53)) 0))))))))
theorem zb_t {i n : Nat} (h : i < n) : Nat.blt i n = true := Nat.ble_eq_true_of_le h
theorem zb_f {i n : Nat} (h : n ≤ i) : Nat.blt i n = false := by
  cases hb : Nat.blt i n with
  | false => rfl
  | true => exact absurd (Nat.le_of_ble_eq_true hb) (by omega)
theorem zD_1 {D : gDom} {i : Nat} (h : i < 4) : zD D i = dSh D i := by unfold zD; rw [zb_t h]; rfl
theorem zD_2 {D : gDom} {i : Nat} (h0 : 4 ≤ i) (h : i < 28) : zD D i = dTr D (i - 4) := by unfold zD; rw [zb_f h0, zb_t h]; rfl
theorem zD_3 {D : gDom} {i : Nat} (h0 : 28 ≤ i) (h : i < 34) : zD D i = dSt D (i - 28) := by unfold zD; rw [zb_f (n := 4) (by omega), zb_f h0, zb_t h]; rfl
theorem zD_4 {D : gDom} {i : Nat} (h0 : 34 ≤ i) (h : i < 39) : zD D i = zS D (i - 34) := by unfold zD; rw [zb_f (n := 4) (by omega), zb_f (n := 28) (by omega), zb_f h0, zb_t h]; rfl
theorem zD_5 {D : gDom} {i : Nat} (h0 : 39 ≤ i) (h : i < 43) : zD D i = dCu D (i - 39) := by unfold zD; rw [zb_f (n := 4) (by omega), zb_f (n := 28) (by omega), zb_f (n := 34) (by omega), zb_f h0, zb_t h]; rfl
theorem zD_6 {D : gDom} {i : Nat} (h0 : 43 ≤ i) (h : i < 47) : zD D i = dSw D (i - 43) := by unfold zD; rw [zb_f (n := 4) (by omega), zb_f (n := 28) (by omega), zb_f (n := 34) (by omega), zb_f (n := 39) (by omega), zb_f h0, zb_t h]; rfl
theorem zD_7 {D : gDom} {i : Nat} (h0 : 47 ≤ i) (h : i < 51) : zD D i = dLa D (i - 47) := by unfold zD; rw [zb_f (n := 4) (by omega), zb_f (n := 28) (by omega), zb_f (n := 34) (by omega), zb_f (n := 39) (by omega), zb_f (n := 43) (by omega), zb_f h0, zb_t h]; rfl
theorem zD_8 {D : gDom} {i : Nat} (h0 : 51 ≤ i) (h : i < 53) : zD D i = zN D (i - 51) := by unfold zD; rw [zb_f (n := 4) (by omega), zb_f (n := 28) (by omega), zb_f (n := 34) (by omega), zb_f (n := 39) (by omega), zb_f (n := 43) (by omega), zb_f (n := 47) (by omega), zb_f h0, zb_t h]; rfl
theorem zD_9 {D : gDom} {i : Nat} (h0 : 53 ≤ i) (h : i < 103) : zD D i = dG D (i - 53) := by unfold zD; rw [zb_f (n := 4) (by omega), zb_f (n := 28) (by omega), zb_f (n := 34) (by omega), zb_f (n := 39) (by omega), zb_f (n := 43) (by omega), zb_f (n := 47) (by omega), zb_f (n := 51) (by omega), zb_f h0, zb_t h]; rfl
theorem zD_x {D : gDom} {i : Nat} (h0 : 103 ≤ i) : zD D i = 0 := by unfold zD; rw [zb_f (n := 4) (by omega), zb_f (n := 28) (by omega), zb_f (n := 34) (by omega), zb_f (n := 39) (by omega), zb_f (n := 43) (by omega), zb_f (n := 47) (by omega), zb_f (n := 51) (by omega), zb_f (n := 53) (by omega), zb_f h0]; rfl
theorem zD_congr {D D' : gDom} {i : Nat} (h1 : i < 4 → dSh D i = dSh D' i) (h2 : 4 ≤ i → i < 28 → dTr D (i - 4) = dTr D' (i - 4)) (h3 : 28 ≤ i → i < 34 → dSt D (i - 28) = dSt D' (i - 28)) (h4 : 34 ≤ i → i < 39 → zS D (i - 34) = zS D' (i - 34)) (h5 : 39 ≤ i → i < 43 → dCu D (i - 39) = dCu D' (i - 39)) (h6 : 43 ≤ i → i < 47 → dSw D (i - 43) = dSw D' (i - 43)) (h7 : 47 ≤ i → i < 51 → dLa D (i - 47) = dLa D' (i - 47)) (h8 : 51 ≤ i → i < 53 → zN D (i - 51) = zN D' (i - 51)) (h9 : 53 ≤ i → i < 103 → dG D (i - 53) = dG D' (i - 53)) : zD D i = zD D' i := by
  by_cases k1 : i < 4
  · rw [zD_1 k1, zD_1 k1, h1 k1]
  by_cases k2 : i < 28
  · rw [zD_2 (by omega) k2, zD_2 (by omega) k2, h2 (by omega) k2]
  by_cases k3 : i < 34
  · rw [zD_3 (by omega) k3, zD_3 (by omega) k3, h3 (by omega) k3]
  by_cases k4 : i < 39
  · rw [zD_4 (by omega) k4, zD_4 (by omega) k4, h4 (by omega) k4]
  by_cases k5 : i < 43
  · rw [zD_5 (by omega) k5, zD_5 (by omega) k5, h5 (by omega) k5]
  by_cases k6 : i < 47
  · rw [zD_6 (by omega) k6, zD_6 (by omega) k6, h6 (by omega) k6]
  by_cases k7 : i < 51
  · rw [zD_7 (by omega) k7, zD_7 (by omega) k7, h7 (by omega) k7]
  by_cases k8 : i < 53
  · rw [zD_8 (by omega) k8, zD_8 (by omega) k8, h8 (by omega) k8]
  by_cases k9 : i < 103
  · rw [zD_9 (by omega) k9, zD_9 (by omega) k9, h9 (by omega) k9]
  · rw [zD_x (by omega), zD_x (by omega)]
theorem zr_tr (D : gDom) (a t : Nat) (ha : a < 6) (ht : t < 4) : zD D (4 + 4 * a + t) = dTr D (a * 4 + t) := by
  rw [zD_2 (by omega) (by omega)]
  exact congrArg (dTr D) (by omega)
theorem zu_tr (D : gDom) (a t : Nat) (ha : a < 6) (ht : t < 4) (v : Int32) : upd (zD D) (4 + 4 * a + t) v = zD (upd (dTr D) (a * 4 + t) v, dG D, dSz D, dC D, dSt D, dSh D, dCu D, dLa D, dSw D, dDy D, dDn D, dLt D, dLd D, dSo D) := by
  funext i
  by_cases hi : i = 4 + 4 * a + t
  · subst hi
    rw [pk_us, zr_tr _ a t ha ht]
    exact pk_us.symm
  · rw [pk_un hi]
    exact zD_congr (fun _ => rfl) (fun _ _ => (pk_un (by omega)).symm) (fun _ _ => rfl) (fun _ _ => rfl) (fun _ _ => rfl) (fun _ _ => rfl) (fun _ _ => rfl) (fun _ _ => rfl) (fun _ _ => rfl)
theorem zr_g (D : gDom) (s k : Nat) (hs : s < 10) (hk : k < 5) : zD D (53 + 5 * s + k) = dG D (s * 5 + k) := by
  rw [zD_9 (by omega) (by omega)]
  exact congrArg (dG D) (by omega)
theorem zu_g (D : gDom) (s k : Nat) (hs : s < 10) (hk : k < 5) (v : Int32) : upd (zD D) (53 + 5 * s + k) v = zD (dTr D, upd (dG D) (s * 5 + k) v, dSz D, dC D, dSt D, dSh D, dCu D, dLa D, dSw D, dDy D, dDn D, dLt D, dLd D, dSo D) := by
  funext i
  by_cases hi : i = 53 + 5 * s + k
  · subst hi
    rw [pk_us, zr_g _ s k hs hk]
    exact pk_us.symm
  · rw [pk_un hi]
    exact zD_congr (fun _ => rfl) (fun _ _ => rfl) (fun _ _ => rfl) (fun _ _ => rfl) (fun _ _ => rfl) (fun _ _ => rfl) (fun _ _ => rfl) (fun _ _ => rfl) (fun _ _ => (pk_un (by omega)).symm)
theorem zr_sh (D : gDom) (k : Nat) (hk : k < 4) : zD D (0 + k) = dSh D (k) := by
  rw [zD_1 (by omega)]
  exact congrArg (dSh D) (by omega)
theorem zu_sh (D : gDom) (k : Nat) (hk : k < 4) (v : Int32) : upd (zD D) (0 + k) v = zD (dTr D, dG D, dSz D, dC D, dSt D, upd (dSh D) (k) v, dCu D, dLa D, dSw D, dDy D, dDn D, dLt D, dLd D, dSo D) := by
  funext i
  by_cases hi : i = 0 + k
  · subst hi
    rw [pk_us, zr_sh _ k hk]
    exact pk_us.symm
  · rw [pk_un hi]
    exact zD_congr (fun _ => (pk_un (by omega)).symm) (fun _ _ => rfl) (fun _ _ => rfl) (fun _ _ => rfl) (fun _ _ => rfl) (fun _ _ => rfl) (fun _ _ => rfl) (fun _ _ => rfl) (fun _ _ => rfl)
theorem zr_st (D : gDom) (k : Nat) (hk : k < 6) : zD D (28 + k) = dSt D (k) := by
  rw [zD_3 (by omega) (by omega)]
  exact congrArg (dSt D) (by omega)
theorem zu_st (D : gDom) (k : Nat) (hk : k < 6) (v : Int32) : upd (zD D) (28 + k) v = zD (dTr D, dG D, dSz D, dC D, upd (dSt D) (k) v, dSh D, dCu D, dLa D, dSw D, dDy D, dDn D, dLt D, dLd D, dSo D) := by
  funext i
  by_cases hi : i = 28 + k
  · subst hi
    rw [pk_us, zr_st _ k hk]
    exact pk_us.symm
  · rw [pk_un hi]
    exact zD_congr (fun _ => rfl) (fun _ _ => rfl) (fun _ _ => (pk_un (by omega)).symm) (fun _ _ => rfl) (fun _ _ => rfl) (fun _ _ => rfl) (fun _ _ => rfl) (fun _ _ => rfl) (fun _ _ => rfl)
theorem zr_cu (D : gDom) (k : Nat) (hk : k < 4) : zD D (39 + k) = dCu D (k) := by
  rw [zD_5 (by omega) (by omega)]
  exact congrArg (dCu D) (by omega)
theorem zu_cu (D : gDom) (k : Nat) (hk : k < 4) (v : Int32) : upd (zD D) (39 + k) v = zD (dTr D, dG D, dSz D, dC D, dSt D, dSh D, upd (dCu D) (k) v, dLa D, dSw D, dDy D, dDn D, dLt D, dLd D, dSo D) := by
  funext i
  by_cases hi : i = 39 + k
  · subst hi
    rw [pk_us, zr_cu _ k hk]
    exact pk_us.symm
  · rw [pk_un hi]
    exact zD_congr (fun _ => rfl) (fun _ _ => rfl) (fun _ _ => rfl) (fun _ _ => rfl) (fun _ _ => (pk_un (by omega)).symm) (fun _ _ => rfl) (fun _ _ => rfl) (fun _ _ => rfl) (fun _ _ => rfl)
theorem zr_sw (D : gDom) (k : Nat) (hk : k < 4) : zD D (43 + k) = dSw D (k) := by
  rw [zD_6 (by omega) (by omega)]
  exact congrArg (dSw D) (by omega)
theorem zu_sw (D : gDom) (k : Nat) (hk : k < 4) (v : Int32) : upd (zD D) (43 + k) v = zD (dTr D, dG D, dSz D, dC D, dSt D, dSh D, dCu D, dLa D, upd (dSw D) (k) v, dDy D, dDn D, dLt D, dLd D, dSo D) := by
  funext i
  by_cases hi : i = 43 + k
  · subst hi
    rw [pk_us, zr_sw _ k hk]
    exact pk_us.symm
  · rw [pk_un hi]
    exact zD_congr (fun _ => rfl) (fun _ _ => rfl) (fun _ _ => rfl) (fun _ _ => rfl) (fun _ _ => rfl) (fun _ _ => (pk_un (by omega)).symm) (fun _ _ => rfl) (fun _ _ => rfl) (fun _ _ => rfl)
theorem zr_la (D : gDom) (k : Nat) (hk : k < 4) : zD D (47 + k) = dLa D (k) := by
  rw [zD_7 (by omega) (by omega)]
  exact congrArg (dLa D) (by omega)
theorem zu_la (D : gDom) (k : Nat) (hk : k < 4) (v : Int32) : upd (zD D) (47 + k) v = zD (dTr D, dG D, dSz D, dC D, dSt D, dSh D, dCu D, upd (dLa D) (k) v, dSw D, dDy D, dDn D, dLt D, dLd D, dSo D) := by
  funext i
  by_cases hi : i = 47 + k
  · subst hi
    rw [pk_us, zr_la _ k hk]
    exact pk_us.symm
  · rw [pk_un hi]
    exact zD_congr (fun _ => rfl) (fun _ _ => rfl) (fun _ _ => rfl) (fun _ _ => rfl) (fun _ _ => rfl) (fun _ _ => rfl) (fun _ _ => (pk_un (by omega)).symm) (fun _ _ => rfl) (fun _ _ => rfl)
theorem zu_34 (D : gDom) (v : Int32) : upd (zD D) 34 v = zD (dTr D, dG D, dSz D, dC D, dSt D, dSh D, dCu D, dLa D, dSw D, v, dDn D, dLt D, dLd D, dSo D) := by
  funext i
  by_cases hi : i = 34
  · subst hi
    rw [pk_us]
    rfl
  · rw [pk_un hi]
    exact zD_congr (fun _ => rfl) (fun _ _ => rfl) (fun _ _ => rfl) (fun k1 k2 => by
      obtain rfl | rfl | rfl | rfl : i = 35 ∨ i = 36 ∨ i = 37 ∨ i = 38 := by omega
      all_goals rfl) (fun _ _ => rfl) (fun _ _ => rfl) (fun _ _ => rfl) (fun _ _ => rfl) (fun _ _ => rfl)
theorem zu_35 (D : gDom) (v : Int32) : upd (zD D) 35 v = zD (dTr D, dG D, dSz D, dC D, dSt D, dSh D, dCu D, dLa D, dSw D, dDy D, v, dLt D, dLd D, dSo D) := by
  funext i
  by_cases hi : i = 35
  · subst hi
    rw [pk_us]
    rfl
  · rw [pk_un hi]
    exact zD_congr (fun _ => rfl) (fun _ _ => rfl) (fun _ _ => rfl) (fun k1 k2 => by
      obtain rfl | rfl | rfl | rfl : i = 34 ∨ i = 36 ∨ i = 37 ∨ i = 38 := by omega
      all_goals rfl) (fun _ _ => rfl) (fun _ _ => rfl) (fun _ _ => rfl) (fun _ _ => rfl) (fun _ _ => rfl)
theorem zu_36 (D : gDom) (v : Int32) : upd (zD D) 36 v = zD (dTr D, dG D, dSz D, dC D, dSt D, dSh D, dCu D, dLa D, dSw D, dDy D, dDn D, v, dLd D, dSo D) := by
  funext i
  by_cases hi : i = 36
  · subst hi
    rw [pk_us]
    rfl
  · rw [pk_un hi]
    exact zD_congr (fun _ => rfl) (fun _ _ => rfl) (fun _ _ => rfl) (fun k1 k2 => by
      obtain rfl | rfl | rfl | rfl : i = 34 ∨ i = 35 ∨ i = 37 ∨ i = 38 := by omega
      all_goals rfl) (fun _ _ => rfl) (fun _ _ => rfl) (fun _ _ => rfl) (fun _ _ => rfl) (fun _ _ => rfl)
theorem zu_37 (D : gDom) (v : Int32) : upd (zD D) 37 v = zD (dTr D, dG D, dSz D, dC D, dSt D, dSh D, dCu D, dLa D, dSw D, dDy D, dDn D, dLt D, v, dSo D) := by
  funext i
  by_cases hi : i = 37
  · subst hi
    rw [pk_us]
    rfl
  · rw [pk_un hi]
    exact zD_congr (fun _ => rfl) (fun _ _ => rfl) (fun _ _ => rfl) (fun k1 k2 => by
      obtain rfl | rfl | rfl | rfl : i = 34 ∨ i = 35 ∨ i = 36 ∨ i = 38 := by omega
      all_goals rfl) (fun _ _ => rfl) (fun _ _ => rfl) (fun _ _ => rfl) (fun _ _ => rfl) (fun _ _ => rfl)
theorem zu_38 (D : gDom) (v : Int32) : upd (zD D) 38 v = zD (dTr D, dG D, dSz D, dC D, dSt D, dSh D, dCu D, dLa D, dSw D, dDy D, dDn D, dLt D, dLd D, v) := by
  funext i
  by_cases hi : i = 38
  · subst hi
    rw [pk_us]
    rfl
  · rw [pk_un hi]
    exact zD_congr (fun _ => rfl) (fun _ _ => rfl) (fun _ _ => rfl) (fun k1 k2 => by
      obtain rfl | rfl | rfl | rfl : i = 34 ∨ i = 35 ∨ i = 36 ∨ i = 37 := by omega
      all_goals rfl) (fun _ _ => rfl) (fun _ _ => rfl) (fun _ _ => rfl) (fun _ _ => rfl) (fun _ _ => rfl)
theorem zu_51 (D : gDom) (v : Int32) : upd (zD D) 51 v = zD (dTr D, dG D, dSz D, v, dSt D, dSh D, dCu D, dLa D, dSw D, dDy D, dDn D, dLt D, dLd D, dSo D) := by
  funext i
  by_cases hi : i = 51
  · subst hi
    rw [pk_us]
    rfl
  · rw [pk_un hi]
    exact zD_congr (fun _ => rfl) (fun _ _ => rfl) (fun _ _ => rfl) (fun _ _ => rfl) (fun _ _ => rfl) (fun _ _ => rfl) (fun _ _ => rfl) (fun k1 k2 => by
      obtain rfl : i = 52 := by omega
      rfl) (fun _ _ => rfl)
theorem zu_52 (D : gDom) (v : Nat) : upd (zD D) 52 (nI v) = zD (dTr D, dG D, v, dC D, dSt D, dSh D, dCu D, dLa D, dSw D, dDy D, dDn D, dLt D, dLd D, dSo D) := by
  funext i
  by_cases hi : i = 52
  · subst hi
    rw [pk_us]
    rfl
  · rw [pk_un hi]
    exact zD_congr (fun _ => rfl) (fun _ _ => rfl) (fun _ _ => rfl) (fun _ _ => rfl) (fun _ _ => rfl) (fun _ _ => rfl) (fun _ _ => rfl) (fun k1 k2 => by
      obtain rfl : i = 51 := by omega
      rfl) (fun _ _ => rfl)
/-- the saved rows, one behind the other -/
def svF (Ds : Nat → gDom) (k : Nat) : Int32 := cond (Nat.blt k 618) (zD (Ds (k / 103)) (k % 103)) 0
/-- a row's cells do to do + i out of another one's from so -/
def cpF (f g : Nat → Int32) (so d i : Nat) : Nat → Int32 := fun k => if d ≤ k ∧ k < d + i then f (so + (k - d)) else g k
theorem cpF_0 (f g : Nat → Int32) (so d : Nat) : cpF f g so d 0 = g := by
  funext k
  exact if_neg (by omega)
theorem cpF_s (f g : Nat → Int32) (so d i : Nat) : upd (cpF f g so d i) (d + i) (f (so + i)) = cpF f g so d (i + 1) := by
  funext k
  unfold upd cpF
  by_cases h : k = d + i
  · rw [if_pos h, if_pos (by omega)]
    exact congrArg f (by omega)
  · rw [if_neg h]
    by_cases h2 : d ≤ k ∧ k < d + i
    · rw [if_pos h2, if_pos (by omega)]
    · rw [if_neg h2, if_neg (by omega)]
def shD (Ds : Nat → gDom) (j : Nat) : gDom := if j < 5 then Ds (j + 1) else Ds j
/-- the saved rows move one place down -/
def shF (f : Nat → Int32) (i : Nat) : Nat → Int32 := fun k => if k < i then f (k + 103) else f k
theorem shF_0 (f : Nat → Int32) : shF f 0 = f := by
  funext k
  exact if_neg (by omega)
theorem shF_s (f : Nat → Int32) (i : Nat) : upd (shF f i) i (shF f i (i + 103)) = shF f (i + 1) := by
  funext k
  rw [show shF f i (i + 103) = f (i + 103) from if_neg (by omega)]
  unfold upd shF
  by_cases h : k = i
  · rw [if_pos h, if_pos (by omega), h]
  · rw [if_neg h]
    by_cases h2 : k < i
    · rw [if_pos h2, if_pos (by omega)]
    · rw [if_neg h2, if_neg (by omega)]
theorem shF_e (Ds : Nat → gDom) : shF (svF Ds) 515 = svF (shD Ds) := by
  funext k
  unfold shF svF shD
  by_cases h : k < 515
  · rw [if_pos h, zb_t (i := k + 103) (n := 618) (by omega), zb_t (i := k) (n := 618) (by omega), if_pos (show k / 103 < 5 by omega)]
    show zD (Ds ((k + 103) / 103)) ((k + 103) % 103) = zD (Ds (k / 103 + 1)) (k % 103)
    rw [show (k + 103) / 103 = k / 103 + 1 by omega, show (k + 103) % 103 = k % 103 by omega]
  · rw [if_neg h]
    by_cases h2 : k < 618
    · rw [if_neg (show ¬ k / 103 < 5 by omega)]
    · rw [zb_f (i := k) (n := 618) (by omega)]
      rfl
theorem cpF_sv (Ds : Nat → gDom) (D : gDom) (n : Nat) (hn : n < 6) : cpF (zD D) (svF Ds) 0 (n * 103) 103 = svF (updD Ds n D) := by
  funext k
  unfold cpF svF updD
  by_cases h : n * 103 ≤ k ∧ k < n * 103 + 103
  · rw [if_pos h, zb_t (i := k) (n := 618) (by omega), if_pos (show k / 103 = n by omega)]
    show zD D (0 + (k - n * 103)) = zD D (k % 103)
    exact congrArg (zD D) (by omega)
  · rw [if_neg h, if_neg (show ¬ k / 103 = n by omega)]
theorem cpF_un (Ds : Nat → gDom) (D : gDom) (n : Nat) (hn : n < 6) : cpF (svF Ds) (zD D) (n * 103) 0 103 = zD (Ds n) := by
  funext k
  unfold cpF
  by_cases h : k < 103
  · rw [if_pos ⟨Nat.zero_le k, by omega⟩]
    unfold svF
    rw [zb_t (n := 618) (by omega)]
    show zD (Ds ((n * 103 + (k - 0)) / 103)) ((n * 103 + (k - 0)) % 103) = zD (Ds n) k
    rw [show (n * 103 + (k - 0)) / 103 = n by omega, show (n * 103 + (k - 0)) % 103 = k by omega]
  · rw [if_neg (by omega), zD_x (by omega), zD_x (by omega)]
theorem cpF_zz (A B : gDom) : cpF (zD A) (zD B) 0 0 103 = zD A := by
  funext k
  unfold cpF
  by_cases h : k < 103
  · rw [if_pos ⟨Nat.zero_le k, by omega⟩]
    exact congrArg (zD A) (by omega)
  · rw [if_neg (by omega), zD_x (by omega), zD_x (by omega)]
/-- thrown, z, the saved rows, how many, the spare row, buffer, its length, order, setters, parts, how many, spot, wrong, hash -/
abbrev gMo : Type := Int32 × gDom × (Nat → gDom) × Nat × gDom × (Nat → Int32) × Nat × (Nat → Nat) × Nat × (Nat → Int32) × Nat × Nat × Int32 × Int64
abbrev mTh (M : gMo) : Int32 := M.1
abbrev mD (M : gMo) : gDom := M.2.1
abbrev mDs (M : gMo) : Nat → gDom := M.2.2.1
abbrev mN (M : gMo) : Nat := M.2.2.2.1
abbrev mSp (M : gMo) : gDom := M.2.2.2.2.1
abbrev mBf (M : gMo) : Nat → Int32 := M.2.2.2.2.2.1
abbrev mTy (M : gMo) : Nat := M.2.2.2.2.2.2.1
abbrev mOd (M : gMo) : Nat → Nat := M.2.2.2.2.2.2.2.1
abbrev mSt (M : gMo) : Nat := M.2.2.2.2.2.2.2.2.1
abbrev mPa (M : gMo) : Nat → Int32 := M.2.2.2.2.2.2.2.2.2.1
abbrev mPm (M : gMo) : Nat := M.2.2.2.2.2.2.2.2.2.2.1
abbrev mSpt (M : gMo) : Nat := M.2.2.2.2.2.2.2.2.2.2.2.1
abbrev mWr (M : gMo) : Int32 := M.2.2.2.2.2.2.2.2.2.2.2.2.1
abbrev mHs (M : gMo) : Int64 := M.2.2.2.2.2.2.2.2.2.2.2.2.2
abbrev oF (od : Nat → Nat) : Nat → Int32 := fun j => nI (od j)
def updN (f : Nat → Nat) (k v : Nat) : Nat → Nat := fun j => if j = k then v else f j
theorem oF_u (od : Nat → Nat) (k v : Nat) : upd (oF od) k (nI v) = oF (updN od k v) := by
  funext j
  unfold upd oF updN
  by_cases h : j = k
  · rw [if_pos h, if_pos h]
  · rw [if_neg h, if_neg h]
abbrev cMo (M : gMo) : gH := [cO 6 [.int (mTh M), .ref 1, .ref 2, .int (nI (mN M)), .ref 3, .ref 4, .int (nI (mTy M)), .ref 5, .int (nI (mSt M)), .ref 6, .int (nI (mPm M)), .int (nI (mSpt M)), .int (mWr M), .long (mHs M)], cI 103 (zD (mD M)), cI 618 (svF (mDs M)), cI 103 (zD (mSp M)), cI 60 (mBf M), cI 10 (oF (mOd M)), cI 39 (mPa M)]
abbrev wTh (M : gMo) (x : Int32) : gMo := (x, mD M, mDs M, mN M, mSp M, mBf M, mTy M, mOd M, mSt M, mPa M, mPm M, mSpt M, mWr M, mHs M)
abbrev wD (M : gMo) (x : gDom) : gMo := (mTh M, x, mDs M, mN M, mSp M, mBf M, mTy M, mOd M, mSt M, mPa M, mPm M, mSpt M, mWr M, mHs M)
abbrev wDs (M : gMo) (x : Nat → gDom) : gMo := (mTh M, mD M, x, mN M, mSp M, mBf M, mTy M, mOd M, mSt M, mPa M, mPm M, mSpt M, mWr M, mHs M)
abbrev wN (M : gMo) (x : Nat) : gMo := (mTh M, mD M, mDs M, x, mSp M, mBf M, mTy M, mOd M, mSt M, mPa M, mPm M, mSpt M, mWr M, mHs M)
abbrev wSp (M : gMo) (x : gDom) : gMo := (mTh M, mD M, mDs M, mN M, x, mBf M, mTy M, mOd M, mSt M, mPa M, mPm M, mSpt M, mWr M, mHs M)
abbrev wBf (M : gMo) (x : Nat → Int32) : gMo := (mTh M, mD M, mDs M, mN M, mSp M, x, mTy M, mOd M, mSt M, mPa M, mPm M, mSpt M, mWr M, mHs M)
abbrev wTy (M : gMo) (x : Nat) : gMo := (mTh M, mD M, mDs M, mN M, mSp M, mBf M, x, mOd M, mSt M, mPa M, mPm M, mSpt M, mWr M, mHs M)
abbrev wOd (M : gMo) (x : Nat → Nat) : gMo := (mTh M, mD M, mDs M, mN M, mSp M, mBf M, mTy M, x, mSt M, mPa M, mPm M, mSpt M, mWr M, mHs M)
abbrev wSt (M : gMo) (x : Nat) : gMo := (mTh M, mD M, mDs M, mN M, mSp M, mBf M, mTy M, mOd M, x, mPa M, mPm M, mSpt M, mWr M, mHs M)
abbrev wPa (M : gMo) (x : Nat → Int32) : gMo := (mTh M, mD M, mDs M, mN M, mSp M, mBf M, mTy M, mOd M, mSt M, x, mPm M, mSpt M, mWr M, mHs M)
abbrev wPm (M : gMo) (x : Nat) : gMo := (mTh M, mD M, mDs M, mN M, mSp M, mBf M, mTy M, mOd M, mSt M, mPa M, x, mSpt M, mWr M, mHs M)
abbrev wSpt (M : gMo) (x : Nat) : gMo := (mTh M, mD M, mDs M, mN M, mSp M, mBf M, mTy M, mOd M, mSt M, mPa M, mPm M, x, mWr M, mHs M)
abbrev wWr (M : gMo) (x : Int32) : gMo := (mTh M, mD M, mDs M, mN M, mSp M, mBf M, mTy M, mOd M, mSt M, mPa M, mPm M, mSpt M, x, mHs M)
abbrev wHs (M : gMo) (x : Int64) : gMo := (mTh M, mD M, mDs M, mN M, mSp M, mBf M, mTy M, mOd M, mSt M, mPa M, mPm M, mSpt M, mWr M, x)
