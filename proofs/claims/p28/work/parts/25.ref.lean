/-! THE PURE HALF, taken over from whole by wip/p28/port2.py -/
/-! THE REFERENCE: its row z (and its saved rows) read as domes. Printed by wip/whole/model.py -/
def zS (D : gDom) (j : Nat) : Int32 := match j with
  | 0 => dDy D
  | 1 => dDn D
  | 2 => dLt D
  | 3 => dLd D
  | _ => dSo D
def zN (D : gDom) (j : Nat) : Int32 := match j with
  | 0 => dC D
  | _ => nI (dSz D)
theorem zb_t {i n : Nat} (h : i < n) : Nat.blt i n = true := Nat.ble_eq_true_of_le h
theorem zb_f {i n : Nat} (h : n ≤ i) : Nat.blt i n = false := by
  cases hb : Nat.blt i n with
  | false => rfl
  | true => exact absurd (Nat.le_of_ble_eq_true hb) (by omega)
def shD (Ds : Nat → gDom) (j : Nat) : gDom := if j < 5 then Ds (j + 1) else Ds j
def updN (f : Nat → Nat) (k v : Nat) : Nat → Nat := fun j => if j = k then v else f j
/-! THE REFERENCE's methods, first part. Printed by wip/whole/meths13.py -/
theorem i4_3 {x : Int32} (h : 4 ≤ x) : 3 < x := Int32.lt_of_lt_of_le (by decide) h
theorem i6_5 {x : Int32} (h : 6 ≤ x) : 5 < x := Int32.lt_of_lt_of_le (by decide) h
def svDs (n : Nat) (Ds : Nat → gDom) (D : gDom) : Nat → gDom := if n = 6 then updD (shD Ds) 5 D else updD Ds n D
theorem frI_r (f : Nat → Int32) (a : Nat) (r : Int32) : (if 0 ≤ r - hA f a then r - hA f a else 0) = frI f a r := by
  unfold frI
  by_cases h : 0 < r - hA f a
  · rw [if_pos h, if_pos (Int32.le_of_lt h)]
  · rw [if_neg h]
    by_cases h2 : 0 ≤ r - hA f a
    · rw [if_pos h2]
      exact Int32.le_antisymm (Int32.not_lt.mp h) h2
    · rw [if_neg h2]
theorem pmI_r (f : Nat → Int32) (a t : Nat) (r : Int32) : (if r ≤ f (a * 4 + t) then r else f (a * 4 + t)) = pmI f a t r := by
  unfold pmI
  by_cases h : r < f (a * 4 + t)
  · rw [if_pos h, if_pos (Int32.le_of_lt h)]
  · rw [if_neg h]
    by_cases h2 : r ≤ f (a * 4 + t)
    · rw [if_pos h2]
      exact Int32.le_antisymm h2 (Int32.not_lt.mp h)
    · rw [if_neg h2]
def prD (D : gDom) (a b t : Nat) (m : Int32) : gDom := setTr D (pourF (dTr D) a b t m)
abbrev prM (D : gDom) (a b t : Nat) : Int32 := pmI (dTr D) a t (frI (dTr D) b (dSt D 1))
/-! THE REFERENCE's methods: what changes it. Printed by wip/whole/meths14.py -/
theorem min_r (x y : Int32) : (if x ≤ y then x else y) = if x < y then x else y := by
  by_cases h : x < y
  · rw [if_pos h, if_pos (Int32.le_of_lt h)]
  · rw [if_neg h]
    by_cases h2 : x ≤ y
    · rw [if_pos h2]
      exact Int32.le_antisymm h2 (Int32.not_lt.mp h)
    · rw [if_neg h2]
/-- the lowest empty tray of those below p; v if there is none -/
def etV (f : Nat → Int32) : Nat → Int32 → Int32
  | 0, v => v
  | p + 1, v => if hA f p = 0 then etV f p (nI p) else etV f p v
theorem etV_in (f : Nat → Int32) : ∀ (p : Nat) (v : Int32), etV f p v = v ∨ ∃ e, e < p ∧ etV f p v = nI e
  | 0, v => Or.inl rfl
  | p + 1, v => by
    unfold etV
    split
    · rcases etV_in f p (nI p) with h | ⟨e, h1, h2⟩
      · exact Or.inr ⟨p, by omega, h⟩
      · exact Or.inr ⟨e, by omega, h2⟩
    · rcases etV_in f p v with h | ⟨e, h1, h2⟩
      · exact Or.inl h
      · exact Or.inr ⟨e, by omega, h2⟩
abbrev etI (f : Nat → Int32) : Int32 := etV f 6 (-1)
theorem etI_n {f : Nat → Int32} (h : ¬ etI f = -1) : etI f = nI (tnx (etI f)) ∧ tnx (etI f) < 6 := by
  rcases etV_in f 6 (-1) with h1 | ⟨e, h1, h2⟩
  · exact absurd h1 h
  · have h3 : etI f = nI e := h2
    rw [h3]
    rw [show tnx (nI e) = e from nI_clamp (by omega)]
    exact ⟨rfl, h1⟩
def srS (a k : Nat) (r : Int32) (f : Nat → Int32) (t : Nat) : Nat → Int32 := if t = k then f else if f (a * 4 + t) ≤ 0 then f else if etI f = -1 then f else pourF f a (tnx (etI f)) t (pmI f a t (frI f (tnx (etI f)) r))
def srR (a k : Nat) (r : Int32) (f : Nat → Int32) : Nat → Nat → Int32
  | 0 => f
  | t + 1 => srS a k r (srR a k r f t) t
def swR (a : Nat) (f s : Nat → Int32) : Nat → (Nat → Int32) × (Nat → Int32)
  | 0 => (f, s)
  | t + 1 => (upd (swR a f s t).1 (a * 4 + t) 0, upd (swR a f s t).2 t ((swR a f s t).2 t + (swR a f s t).1 (a * 4 + t)))
/-- a section is added behind the others -/
def adR (D : gDom) (t u d : Int32) : gDom := (dTr D, adF (dG D) (dSz D) (dC D) t u d, dSz D + 1, dC D + 1, D.2.2.2.2)
/-- the place of the last section of number x, -1 if there is none -/
def plL (g : Nat → Int32) (x : Int32) : Nat → Int32
  | 0 => -1
  | i + 1 => if g (i * 5 + 0) = x then nI i else plL g x i
/-- the cells from a on, j of them, are those five behind -/
def toF (g : Nat → Int32) (a j : Nat) : Nat → Int32 := fun q => if a ≤ q ∧ q < a + j then g (q + 5) else g q
def toD (D : gDom) (p m : Nat) : gDom := (dTr D, toF (dG D) (5 * p) (5 * m - 5 * p), m, D.2.2.2)
theorem toF_0 (g : Nat → Int32) (a : Nat) : toF g a 0 = g := by
  funext q
  exact if_neg (by omega)
theorem toF_s (g : Nat → Int32) (a j : Nat) : upd (toF g a j) (a + j) (toF g a j (a + j + 5)) = toF g a (j + 1) := by
  funext q
  rw [show toF g a j (a + j + 5) = g (a + j + 5) from if_neg (by omega)]
  unfold upd toF
  by_cases h : q = a + j
  · rw [if_pos h, if_pos (by omega), h]
  · rw [if_neg h]
    by_cases h2 : a ≤ q ∧ q < a + j
    · rw [if_pos h2, if_pos (by omega)]
    · rw [if_neg h2, if_neg (by omega)]
theorem i0_2 {x : Int32} (h : ¬ x < 0) (h0 : ¬ x = 0) (h1 : ¬ x = 1) : ¬ x < 2 := by
  intro h2
  have a0 : ¬ x.toInt < (0 : Int32).toInt := fun q => h (Int32.lt_iff_toInt_lt.mpr q)
  have a2 : x.toInt < (2 : Int32).toInt := Int32.lt_iff_toInt_lt.mp h2
  have b0 : x.toInt ≠ (0 : Int32).toInt := fun q => h0 (Int32.toInt_inj.mp q)
  have b1 : x.toInt ≠ (1 : Int32).toInt := fun q => h1 (Int32.toInt_inj.mp q)
  rw [show (0 : Int32).toInt = 0 from rfl] at a0 b0
  rw [show (2 : Int32).toInt = 2 from rfl] at a2
  rw [show (1 : Int32).toInt = 1 from rfl] at b1
  omega
def loI (k : Nat) (g : Nat → Int32) (s : Nat) : Nat → (Nat → Nat) → Nat → Nat
  | 0, od => updN od 0 s
  | a + 1, od => if bI (cb k g s (od a)) = 0 then updN od (a + 1) s else loI k g s a (updN od (a + 1) (od a))
def loR (k : Nat) (g : Nat → Int32) : Nat → (Nat → Nat) → Nat → Nat
  | 0, od => od
  | s + 1, od => loI k g s s (loR k g s od)
def odOK (od : Nat → Nat) : Prop := ∀ j, od j < 10
theorem odOK_u {od : Nat → Nat} (h : odOK od) (k v : Nat) (hv : v < 10) : odOK (updN od k v) := by
  intro j
  unfold updN
  split
  · exact hv
  · exact h j
theorem odOK_I {k : Nat} {g : Nat → Int32} {s : Nat} (hs : s < 10) : ∀ (a : Nat) (od : Nat → Nat), odOK od → odOK (loI k g s a od)
  | 0, od, h => odOK_u h 0 s hs
  | a + 1, od, h => by
    unfold loI
    split
    · exact odOK_u h _ s hs
    · exact odOK_I hs a _ (odOK_u h _ _ (h a))
theorem odOK_R {k : Nat} {g : Nat → Int32} : ∀ (s : Nat) (od : Nat → Nat), s ≤ 10 → odOK od → odOK (loR k g s od)
  | 0, od, _, h => h
  | s + 1, od, hs, h => odOK_I (by omega) s _ (odOK_R s od (by omega) h)
def brkI (q n : Int32) : Int32 := if q = 0 then 0 else n / q
theorem brkI_n {x : Int32} {q n : Nat} (hx : x = nI q) (hq : q ≤ 99) (hn : n < 2 ^ 31) : brkI x (nI n) = nI (n / q) := by
  subst hx
  unfold brkI
  by_cases h : q = 0
  · subst h
    rw [if_pos nI_0, Nat.div_zero]
    rfl
  · rw [if_neg (nI_ne0 (by omega) (by omega)), pk_div hn (by omega) (by omega)]
/-- how many are taken so that c come in, q: setting 5 -/
def tkN (q c : Nat) : Nat := if q < 2 then c else c + (c - 1) / (q - 1)
theorem tkN_iff {q c j : Nat} (hq : q = 0 ∨ 2 ≤ q) (hc : 1 ≤ c) : c + j - (c + j) / q < c ↔ c + j < tkN q c := by
  unfold tkN
  rcases hq with rfl | hq
  · rw [Nat.div_zero, if_pos (by decide)]
    omega
  · rw [if_neg (by omega)]
    obtain ⟨r, rfl⟩ : ∃ r, q = r + 2 := ⟨q - 2, by omega⟩
    have h1 : (j + 1 ≤ (c + j) / (r + 2)) ↔ (j + 1) * (r + 2) ≤ c + j := Nat.le_div_iff_mul_le (by omega)
    have h2 : (j + 1 ≤ (c - 1) / (r + 2 - 1)) ↔ (j + 1) * (r + 2 - 1) ≤ c - 1 := Nat.le_div_iff_mul_le (by omega)
    have h3 : (j + 1) * (r + 2) = (j + 1) * (r + 2 - 1) + (j + 1) := by
      rw [show r + 2 - 1 = r + 1 by omega, show r + 2 = (r + 1) + 1 by omega, Nat.mul_succ]
    have h4 : (c + j) / (r + 2) ≤ c + j := Nat.div_le_self _ _
    omega
theorem tkN_le {q c : Nat} (hc : 1 ≤ c) : c ≤ tkN q c ∧ tkN q c ≤ 2 * c := by
  unfold tkN
  have := Nat.div_le_self (c - 1) (q - 1)
  have h0 := Nat.zero_le ((c - 1) / (q - 1))
  split <;> omega
/-- the cubes of tone t in the first i trays, without the mixed up ones -/
def rpI (f : Nat → Int32) (t : Nat) : Nat → Int32
  | 0 => 0
  | i + 1 => if tn f i ≤ 1 then rpI f t i + f (i * 4 + t) else rpI f t i
/-! THE REFERENCE's methods: what setters do, days. Printed by wip/whole/meths16.py -/
/-- what the walks ask of a row's section: a tone, few cubes wanted -/
def rowOK (g : Nat → Int32) (p : Nat) : Prop := okT (g (p * 5 + 1)) ∧ g (p * 5 + 2) = nI (tnx (g (p * 5 + 2))) ∧ tnx (g (p * 5 + 2)) ≤ 500
def stOK (s : Nat → Int32) : Prop := s 5 = nI (tnx (s 5)) ∧ (tnx (s 5) = 0 ∨ 2 ≤ tnx (s 5)) ∧ tnx (s 5) ≤ 99 ∧ s 4 = nI (tnx (s 4)) ∧ 1 ≤ tnx (s 4) ∧ tnx (s 4) ≤ 99 ∧ s 3 = nI (tnx (s 3)) ∧ tnx (s 3) ≤ 9
def rOK (D : gDom) : Prop := dSz D ≤ 10 ∧ (∀ p, p < dSz D → rowOK (dG D) p) ∧ stOK (dSt D)
def lyA (x l : Int32) : Int32 := if l ≤ x then l else x
/-- how many cubes a setter takes: not more than x, than he lays in a day, than there are -/
def lyK (D : gDom) (t : Nat) (x : Int32) : Int32 := lyA (lyA x (dSt D 4)) (rpI (dTr D) t 6)
def lcH (f : Nat → Int32) (i t : Nat) (l : Int32) : Int32 := lyA (if tn f i ≤ 1 then f (i * 4 + t) else 0) l
def lcR (t : Nat) : Nat → Nat → (Nat → Int32) → Int32 → Nat → Int32
  | 0, _, f, _ => f
  | n + 1, i, f, l => lcR t n (i + 1) (upd f (i * 4 + t) (f (i * 4 + t) - lcH f i t l)) (l - lcH f i t l)
theorem lcR_st {t n i : Nat} {f : Nat → Int32} {l v : Int32} (hh : lcH f i t l = v) : lcR t (n + 1) i f l = lcR t n (i + 1) (upd f (i * 4 + t) (f (i * 4 + t) - v)) (l - v) := by
  subst hh
  rfl
def layG (g : Nat → Int32) (s : Nat) (v : Int32) : Nat → Int32 := upd (upd g (s * 5 + 4) (g (s * 5 + 4) + v)) (s * 5 + 2) (upd g (s * 5 + 4) (g (s * 5 + 4) + v) (s * 5 + 2) - v)
def lyE (D : gDom) (s t : Nat) (n b : Int32) : gDom := (lcR t 6 0 (dTr D) n, layG (dG D) s (n - b), dSz D, dC D, dSt D, dSh D, dCu D, upd (dLa D) t (dLa D t + (n - b)), upd (dSw D) t (dSw D t + b), D.2.2.2.2.2.2.2.2.2)
def lyN (D : gDom) (s : Nat) : Int32 := lyK D (tnx (dG D (s * 5 + 1))) (nI (tkN (tnx (dSt D 5)) (tnx (dG D (s * 5 + 2)))))
def lyB (D : gDom) (s : Nat) : Int32 := brkI (dSt D 5) (lyN D s)
def lyD (D : gDom) (s : Nat) : gDom := lyE D s (tnx (dG D (s * 5 + 1))) (lyN D s) (lyB D s)
def lyV (D : gDom) (s : Nat) : Int32 := lyN D s - lyB D s
theorem nI_pos1 {c : Nat} (h : ¬ nI c ≤ 0) : 1 ≤ c := by
  by_cases h0 : c = 0
  · subst h0
    exact absurd (by decide) h
  · omega
theorem tkN_top {q c n : Nat} (hq : q = 0 ∨ 2 ≤ q) (hc : 1 ≤ c) (hn : n ≤ tkN q c) : n - n / q ≤ c := by
  have hd : n / q ≤ n := Nat.div_le_self _ _
  by_cases h : n ≤ c
  · exact Nat.le_trans (Nat.sub_le _ _) h
  · obtain ⟨j, rfl⟩ : ∃ j, n = c + (j + 1) := ⟨n - c - 1, by omega⟩
    have h1 := (tkN_iff (q := q) (c := c) (j := j) hq hc).mpr (by omega)
    have h2 : (c + j) / q ≤ (c + (j + 1)) / q := Nat.div_le_div_right (by omega)
    have h3 : (c + j) / q ≤ c + j := Nat.div_le_self _ _
    omega
/-- what a setter takes and lays, as numbers -/
theorem lyN_n {D : gDom} {s : Nat} (hok : rOK D) (hs : s < dSz D) (hw : ¬ dG D (s * 5 + 2) ≤ 0) (hR : ¬ rpI (dTr D) (tnx (dG D (s * 5 + 1))) 6 ≤ 0) : ∃ n, 1 ≤ n ∧ n ≤ 99 ∧ n ≤ tkN (tnx (dSt D 5)) (tnx (dG D (s * 5 + 2))) ∧ nI n ≤ rpI (dTr D) (tnx (dG D (s * 5 + 1))) 6 ∧ lyN D s = nI n ∧ lyB D s = nI (n / tnx (dSt D 5)) ∧ lyV D s = nI (n - n / tnx (dSt D 5)) := by
  obtain ⟨h10, hr, h5, h51, h52, h4, h41, h42, h3, h31⟩ := hok
  obtain ⟨⟨hT, ht⟩, hC, hc⟩ := hr s hs
  have hc1 : 1 ≤ tnx (dG D (s * 5 + 2)) := nI_pos1 (hC ▸ hw)
  have hk := tkN_le (q := tnx (dSt D 5)) hc1
  have key : ∃ n, 1 ≤ n ∧ n ≤ 99 ∧ n ≤ tkN (tnx (dSt D 5)) (tnx (dG D (s * 5 + 2))) ∧ nI n ≤ rpI (dTr D) (tnx (dG D (s * 5 + 1))) 6 ∧ lyN D s = nI n := by
    have hA : ∃ a, 1 ≤ a ∧ a ≤ 99 ∧ a ≤ tkN (tnx (dSt D 5)) (tnx (dG D (s * 5 + 2))) ∧ lyA (nI (tkN (tnx (dSt D 5)) (tnx (dG D (s * 5 + 2))))) (dSt D 4) = nI a := by
      unfold lyA
      rw [h4]
      by_cases h : nI (tnx (dSt D 4)) ≤ nI (tkN (tnx (dSt D 5)) (tnx (dG D (s * 5 + 2))))
      · have h' := (nI_leI (by omega) (by omega)).mp h
        exact ⟨_, h41, h42, h', if_pos h⟩
      · have h' := mt (nI_leI (by omega) (by omega)).mpr h
        exact ⟨_, by omega, by omega, Nat.le_refl _, if_neg h⟩
    obtain ⟨a, a1, a2, a3, ha⟩ := hA
    unfold lyN lyK
    rw [ha]
    unfold lyA
    by_cases h : rpI (dTr D) (tnx (dG D (s * 5 + 1))) 6 ≤ nI a
    · obtain ⟨r, hr1, hr2⟩ := nI_of2 (x := rpI (dTr D) (tnx (dG D (s * 5 + 1))) 6) (M := nI a) (n := a) (nI_toInt (by omega)) (fun q => hR (Int32.le_of_lt q)) h
      refine ⟨r, nI_pos1 (hr2 ▸ hR), by omega, by omega, ?_, ?_⟩
      · rw [hr2]
        exact Int32.le_refl _
      · rw [if_pos h, hr2]
    · refine ⟨a, a1, a2, a3, Int32.le_of_lt (Int32.not_le.mp h), if_neg h⟩
  obtain ⟨n, n1, n2, n3, n4, n5⟩ := key
  have hB : lyB D s = nI (n / tnx (dSt D 5)) := by
    unfold lyB
    rw [n5]
    exact brkI_n h5 h52 (by omega)
  refine ⟨n, n1, n2, n3, n4, n5, hB, ?_⟩
  unfold lyV
  rw [hB, n5]
  exact pk_sub (Nat.div_le_self _ _)
theorem layG_at (g : Nat → Int32) (s : Nat) (v : Int32) (q k : Nat) (hk : k < 5) : layG g s v (q * 5 + k) = if q = s ∧ k = 4 then g (q * 5 + k) + v else if q = s ∧ k = 2 then g (q * 5 + k) - v else g (q * 5 + k) := by
  unfold layG upd
  by_cases h : q = s
  · subst h
    by_cases h4 : k = 4
    · subst h4
      simp
    · by_cases h2 : k = 2
      · subst h2
        simp
      · rw [if_neg (by omega), if_neg (by omega), if_neg (by omega), if_neg (by omega)]
  · rw [if_neg (by omega), if_neg (by omega), if_neg (by omega), if_neg (by omega)]
theorem rOK_ly {D : gDom} {s : Nat} (hok : rOK D) (hs : s < dSz D) (hw : ¬ dG D (s * 5 + 2) ≤ 0) (hR : ¬ rpI (dTr D) (tnx (dG D (s * 5 + 1))) 6 ≤ 0) : rOK (lyD D s) := by
  obtain ⟨n, n1, n2, n3, -, n5, n6, n7⟩ := lyN_n hok hs hw hR
  obtain ⟨h10, hr, hst⟩ := id hok
  refine ⟨h10, fun p hp => ?_, hst⟩
  obtain ⟨hT, hC, hc⟩ := hr p hp
  have hv : lyN D s - lyB D s = nI (n - n / tnx (dSt D 5)) := n7
  have e1 : dG (lyD D s) (p * 5 + 1) = dG D (p * 5 + 1) := (layG_at _ _ _ _ _ (by decide)).trans ((if_neg (by omega)).trans (if_neg (by omega)))
  refine ⟨?_, ?_⟩
  · unfold okT
    rw [e1]
    exact hT
  · by_cases h : p = s
    · subst h
      have h0 : 1 ≤ tnx (dG D (p * 5 + 2)) := nI_pos1 (hC ▸ hw)
      have ht := tkN_top (hst.2.1) h0 n3
      have e2 : dG (lyD D p) (p * 5 + 2) = nI (tnx (dG D (p * 5 + 2)) - (n - n / tnx (dSt D 5))) := by
        refine ((layG_at _ _ _ _ _ (by decide)).trans ((if_neg (by omega)).trans (if_pos ⟨rfl, rfl⟩))).trans ?_
        rw [hv]
        refine (congrArg (· - _) hC).trans ?_
        exact pk_sub ht
      rw [e2, show tnx (nI (tnx (dG D (p * 5 + 2)) - (n - n / tnx (dSt D 5)))) = tnx (dG D (p * 5 + 2)) - (n - n / tnx (dSt D 5)) from nI_clamp (by omega)]
      exact ⟨rfl, by omega⟩
    · have e2 : dG (lyD D s) (p * 5 + 2) = dG D (p * 5 + 2) := (layG_at _ _ _ _ _ (by decide)).trans ((if_neg (by omega)).trans (if_neg (by omega)))
      rw [e2]
      exact ⟨hC, hc⟩
/-- setters work on section s: the dome, how many cubes come in, the setters left -/
def wkR (s : Nat) : Nat → gDom → Int32 → gDom × Int32 × Nat
  | 0, D, v => (D, v, 0)
  | k + 1, D, v => if dG D (s * 5 + 2) ≤ 0 then (D, v, k + 1) else if rpI (dTr D) (tnx (dG D (s * 5 + 1))) 6 ≤ 0 then (D, v, k + 1) else wkR s k (lyD D s) (v + lyV D s)
theorem wkR_ok {s : Nat} : ∀ (k : Nat) (D : gDom) (v : Int32), rOK D → s < dSz D → rOK (wkR s k D v).1 ∧ dSz (wkR s k D v).1 = dSz D ∧ (wkR s k D v).2.2 ≤ k ∧ dSt (wkR s k D v).1 = dSt D
  | 0, D, v, h, _ => ⟨h, rfl, Nat.le_refl _, rfl⟩
  | k + 1, D, v, h, hs => by
    unfold wkR
    by_cases h1 : dG D (s * 5 + 2) ≤ 0
    · rw [if_pos h1]
      exact ⟨h, rfl, Nat.le_refl _, rfl⟩
    · rw [if_neg h1]
      by_cases h2 : rpI (dTr D) (tnx (dG D (s * 5 + 1))) 6 ≤ 0
      · rw [if_pos h2]
        exact ⟨h, rfl, Nat.le_refl _, rfl⟩
      · rw [if_neg h2]
        obtain ⟨a, b, c, d⟩ := wkR_ok k (lyD D s) (v + lyV D s) (rOK_ly h hs h1 h2) hs
        exact ⟨a, b.trans rfl, Nat.le_succ_of_le c, d.trans rfl⟩
def edS (D : gDom) (s : Nat) : gDom := if dG D (s * 5 + 2) = 0 then toD (cdD D (dDy D - dG D (s * 5 + 3))) s (dSz D - 1) else D
/-- the sections at places below p: those that want no more go -/
def edR : Nat → gDom → gDom
  | 0, D => D
  | p + 1, D => edR p (edS D p)
theorem toF_at (g : Nat → Int32) (p m q k : Nat) (hk : k < 5) (hp : p ≤ m) : toF g (5 * p) (5 * m - 5 * p) (q * 5 + k) = g ((if p ≤ q ∧ q < m then q + 1 else q) * 5 + k) := by
  unfold toF
  by_cases h : p ≤ q ∧ q < m
  · rw [if_pos h, if_pos (by omega)]
    exact congrArg g (by omega)
  · rw [if_neg h, if_neg (by omega)]
theorem rOK_to {D : gDom} {s : Nat} (h : rOK D) (hs : s < dSz D) : rOK (toD D s (dSz D - 1)) := by
  obtain ⟨h10, hr, hst⟩ := h
  refine ⟨by show dSz D - 1 ≤ 10; omega, fun p hp => ?_, hst⟩
  have hp' : p < dSz D - 1 := hp
  have hq : (if s ≤ p ∧ p < dSz D - 1 then p + 1 else p) < dSz D := by split <;> omega
  have := hr _ hq
  unfold rowOK okT at this ⊢
  show (toF (dG D) (5 * s) (5 * (dSz D - 1) - 5 * s) (p * 5 + 1) = nI (tnx (toF (dG D) (5 * s) (5 * (dSz D - 1) - 5 * s) (p * 5 + 1))) ∧ tnx (toF (dG D) (5 * s) (5 * (dSz D - 1) - 5 * s) (p * 5 + 1)) < 4) ∧ toF (dG D) (5 * s) (5 * (dSz D - 1) - 5 * s) (p * 5 + 2) = nI (tnx (toF (dG D) (5 * s) (5 * (dSz D - 1) - 5 * s) (p * 5 + 2))) ∧ tnx (toF (dG D) (5 * s) (5 * (dSz D - 1) - 5 * s) (p * 5 + 2)) ≤ 500
  rw [toF_at _ _ _ _ _ (by decide) (by omega), toF_at _ _ _ _ _ (by decide) (by omega)]
  exact this
theorem cdD_2 (D : gDom) (v : Int32) : dG (cdD D v) = dG D ∧ dSz (cdD D v) = dSz D ∧ dSt (cdD D v) = dSt D := by
  unfold cdD
  split <;> exact ⟨rfl, rfl, rfl⟩
theorem rOK_cd {D : gDom} {v : Int32} (h : rOK D) : rOK (cdD D v) := by
  unfold cdD
  split <;> exact h
theorem edS_ok {D : gDom} {s : Nat} (h : rOK D) (hs : s < dSz D) : rOK (edS D s) ∧ s ≤ dSz (edS D s) ∧ dSt (edS D s) = dSt D := by
  unfold edS
  by_cases h0 : dG D (s * 5 + 2) = 0
  · rw [if_pos h0]
    obtain ⟨e1, e2, e3⟩ := cdD_2 D (dDy D - dG D (s * 5 + 3))
    have := rOK_to (rOK_cd (v := dDy D - dG D (s * 5 + 3)) h) (s := s) (by rw [e2]; exact hs)
    rw [e2] at this
    exact ⟨this, by show s ≤ dSz D - 1; omega, e3⟩
  · rw [if_neg h0]
    exact ⟨h, by omega, rfl⟩
theorem edR_ok : ∀ (p : Nat) (D : gDom), rOK D → p ≤ dSz D → rOK (edR p D) ∧ dSt (edR p D) = dSt D
  | 0, D, h, _ => ⟨h, rfl⟩
  | p + 1, D, h, hp => by
    obtain ⟨a, b, c⟩ := edS_ok h (s := p) (by omega)
    obtain ⟨d, e⟩ := edR_ok p (edS D p) a b
    exact ⟨d, e.trans c⟩
/-! THE REFERENCE's methods: a day, days. Printed by wip/whole/meths17.py -/
/-- mixed up trays are sorted, as long as a setter is left -/
def r1 (r : Int32) : Nat → Nat → (Nat → Int32) → Int32 → Nat → (Nat → Int32) × Int32 × Nat
  | 0, _, f, so, s => (f, so, s)
  | n + 1, i, f, so, s => if s = 0 then r1 r n (i + 1) f so s else if tn f i ≤ 1 then r1 r n (i + 1) f so s else r1 r n (i + 1) (srR i (moc f i 3) r f 4) (so + 1) (s - 1)
theorem r1_le {r : Int32} : ∀ (n i : Nat) (f : Nat → Int32) (so : Int32) (s : Nat), (r1 r n i f so s).2.2 ≤ s
  | 0, _, _, _, s => Nat.le_refl s
  | n + 1, i, f, so, s => by
    unfold r1
    by_cases h : s = 0
    · rw [if_pos h]
      exact r1_le n (i + 1) f so s
    · rw [if_neg h]
      by_cases h2 : tn f i ≤ 1
      · rw [if_pos h2]
        exact r1_le n (i + 1) f so s
      · rw [if_neg h2]
        exact Nat.le_trans (r1_le n (i + 1) _ _ (s - 1)) (Nat.sub_le s 1)
/-- the sections are gone through in the order od -/
def w2 (od : Nat → Nat) : Nat → Nat → gDom → Int32 → Nat → gDom × Int32 × Nat
  | 0, _, D, v, s => (D, v, s)
  | n + 1, k, D, v, s => w2 od n (k + 1) (wkR (od k) s D 0).1 (v + (wkR (od k) s D 0).2.1) (wkR (od k) s D 0).2.2
theorem w2_ok {od : Nat → Nat} : ∀ (n k : Nat) (D : gDom) (v : Int32) (s : Nat), rOK D → (∀ j, j < dSz D → od j < dSz D) → k + n ≤ dSz D → rOK (w2 od n k D v s).1 ∧ dSz (w2 od n k D v s).1 = dSz D ∧ (w2 od n k D v s).2.2 ≤ s ∧ dSt (w2 od n k D v s).1 = dSt D
  | 0, k, D, v, s, h, _, _ => ⟨h, rfl, Nat.le_refl _, rfl⟩
  | n + 1, k, D, v, s, h, ho, hk => by
    obtain ⟨a, b, c, d⟩ := wkR_ok (s := od k) s D 0 h (ho k (by omega))
    obtain ⟨e1, e2, e3, e4⟩ := w2_ok n (k + 1) (wkR (od k) s D 0).1 (v + (wkR (od k) s D 0).2.1) (wkR (od k) s D 0).2.2 a (by rw [b]; exact ho) (by rw [b]; omega)
    exact ⟨e1, e2.trans b, Nat.le_trans e3 c, e4.trans d⟩
/-- the order's first entries are places of sections -/
theorem lo_lt {k : Nat} {g : Nat → Int32} {s : Nat} : ∀ (a : Nat) (od : Nat → Nat), a ≤ s → (∀ j, j < s → od j < s) → ∀ j, j ≤ s → loI k g s a od j < s + 1 ∨ (a < j ∧ loI k g s a od j = od j)
  | 0, od, _, ho, j, hj => by
    unfold loI updN
    by_cases h : j = 0
    · rw [if_pos h]
      exact Or.inl (by omega)
    · rw [if_neg h]
      exact Or.inr ⟨by omega, rfl⟩
  | a + 1, od, ha, ho, j, hj => by
    unfold loI
    by_cases hc : bI (cb k g s (od a)) = 0
    · rw [if_pos hc]
      unfold updN
      by_cases h : j = a + 1
      · rw [if_pos h]
        exact Or.inl (by omega)
      · rw [if_neg h]
        by_cases h2 : j < a + 1
        · exact Or.inl (by have := ho j (by omega); omega)
        · exact Or.inr ⟨by omega, rfl⟩
    · rw [if_neg hc]
      by_cases h2 : j ≤ a
      · rcases lo_lt a (updN od (a + 1) (od a)) (by omega) (fun q hq => by
          unfold updN
          split
          · exact ho a (by omega)
          · exact ho q hq) j hj with h | ⟨h, _⟩
        · exact Or.inl h
        · omega
      · rcases lo_lt a (updN od (a + 1) (od a)) (by omega) (fun q hq => by
          unfold updN
          split
          · exact ho a (by omega)
          · exact ho q hq) j hj with h | ⟨h, h3⟩
        · exact Or.inl h
        · rw [h3]
          unfold updN
          by_cases h4 : j = a + 1
          · rw [if_pos h4]
            exact Or.inl (by have := ho a (by omega); omega)
          · rw [if_neg h4]
            exact Or.inr ⟨by omega, rfl⟩
theorem loR_lt {k : Nat} {g : Nat → Int32} : ∀ (s : Nat) (od : Nat → Nat) (j : Nat), j < s → loR k g s od j < s
  | 0, _, _, h => absurd h (Nat.not_lt_zero _)
  | s + 1, od, j, h => by
    rcases lo_lt (k := k) (g := g) (s := s) s (loR k g s od) (Nat.le_refl s) (fun q hq => loR_lt s od q hq) j (by omega) with h1 | ⟨h1, _⟩
    · exact h1
    · omega
def rwA (D : gDom) : (Nat → Int32) × Int32 × Nat := r1 (dSt D 1) 6 0 (dTr D) (dSo D) (tnx (dSt D 3))
def rwB (D : gDom) : gDom := setTS D (rwA D).1 (rwA D).2.1
def rwO (D : gDom) (od : Nat → Nat) : Nat → Nat := loR (keyOf (dSt D 2)) (dG D) (dSz D) od
def rwC (D : gDom) (od : Nat → Nat) : gDom × Int32 × Nat := w2 (rwO D od) (dSz D) 0 (rwB D) 0 (rwA D).2.2
def dayD (D : gDom) : gDom := (dTr D, dG D, dSz D, dC D, dSt D, dSh D, dCu D, dLa D, dSw D, dDy D + 1, dDn D, dLt D, dLd D, dSo D)
/-- a day of the reference -/
def rwD (D : gDom) (od : Nat → Nat) : gDom := dayD (edR (dSz (rwC D od).1) (rwC D od).1)
theorem rOK_B {D : gDom} (h : rOK D) : rOK (rwB D) := h
theorem rOK_C {D : gDom} (od : Nat → Nat) (h : rOK D) : rOK (rwC D od).1 ∧ dSz (rwC D od).1 = dSz D ∧ (rwC D od).2.2 ≤ (rwA D).2.2 ∧ dSt (rwC D od).1 = dSt D := w2_ok (dSz D) 0 (rwB D) 0 (rwA D).2.2 (rOK_B h) (fun j hj => loR_lt (dSz D) od j hj) (Nat.le_of_eq (Nat.zero_add _))
theorem rOK_D {D : gDom} (od : Nat → Nat) (h : rOK D) : rOK (rwD D od) ∧ dSt (rwD D od) = dSt D := by
  obtain ⟨a, b, c, d⟩ := rOK_C od h
  obtain ⟨e, f⟩ := edR_ok (dSz (rwC D od).1) (rwC D od).1 a (Nat.le_refl _)
  exact ⟨e, f.trans d⟩
/-- n days: dome, order, setters left, cubes that came in -/
def dyR (D : gDom) (od : Nat → Nat) (st : Nat) : Nat → gDom × (Nat → Nat) × Nat × Int32
  | 0 => (D, od, st, 0)
  | n + 1 => (rwD (dyR D od st n).1 (dyR D od st n).2.1, rwO (dyR D od st n).1 (dyR D od st n).2.1, (rwC (dyR D od st n).1 (dyR D od st n).2.1).2.2, (dyR D od st n).2.2.2 + (rwC (dyR D od st n).1 (dyR D od st n).2.1).2.1)
theorem odOK_O {D : gDom} {od : Nat → Nat} (h : rOK D) (ho : odOK od) : odOK (rwO D od) := odOK_R _ od h.1 ho
theorem dyR_ok {D : gDom} {od : Nat → Nat} {st : Nat} (h : rOK D) (ho : odOK od) : ∀ n, rOK (dyR D od st n).1 ∧ odOK (dyR D od st n).2.1 ∧ dSt (dyR D od st n).1 = dSt D
  | 0 => ⟨h, ho, rfl⟩
  | n + 1 => by
    obtain ⟨a, b, c⟩ := dyR_ok (st := st) h ho n
    obtain ⟨d, e⟩ := rOK_D (dyR D od st n).2.1 a
    exact ⟨d, odOK_O a b, e.trans c⟩
/-! THE REFERENCE's methods: looks. Printed by wip/whole/meths18.py -/
def emR (f : Nat → Int32) : Nat → Nat
  | 0 => 0
  | i + 1 => if hA f i = 0 then emR f i + 1 else emR f i
theorem emR_le (f : Nat → Int32) : ∀ i, emR f i ≤ i
  | 0 => Nat.le_refl _
  | i + 1 => by
    have := emR_le f i
    unfold emR
    split <;> omega
def lkR (D : gDom) (t : Nat) : Nat → Int32
  | 0 => -(hO (dTr D) t) - dSh D t * dSt D 0
  | i + 1 => if dG D (i * 5 + 1) = nI t then lkR D t i + nI (tkN (tnx (dSt D 5)) (tnx (dG D (i * 5 + 2)))) else lkR D t i
def lkI (D : gDom) (t : Nat) : Int32 := if lkR D t (dSz D) ≤ 0 then 0 else (lkR D t (dSz D) + dSt D 0 - 1) / dSt D 0
/-- at rest each section still wants cubes -/
def rsOK (D : gDom) : Prop := rOK D ∧ (∀ p, p < dSz D → 1 ≤ tnx (dG D (p * 5 + 2))) ∧ ¬ dSt D 0 = 0
theorem mxc_le2 (f : Nat → Int32) (i : Nat) : mxc f i ≤ i := mxc_le f i
/-! THE REFERENCE's days don't depend on what lies in its order's row; contracts up to its scratch cells -/
theorem loI_pt {k : Nat} {g : Nat → Int32} {s : Nat} : ∀ (a : Nat) (od od' : Nat → Nat) (j : Nat), (∀ i, i < a → od i = od' i) → (j ≤ a ∨ od j = od' j) → loI k g s a od j = loI k g s a od' j
  | 0, od, od', j, h, hj => by
    unfold loI updN
    by_cases h0 : j = 0
    · rw [if_pos h0, if_pos h0]
    · rw [if_neg h0, if_neg h0]
      exact hj.resolve_left (by omega)
  | a + 1, od, od', j, h, hj => by
    unfold loI
    rw [h a (by omega)]
    by_cases hc : bI (cb k g s (od' a)) = 0
    · rw [if_pos hc, if_pos hc]
      unfold updN
      by_cases h0 : j = a + 1
      · rw [if_pos h0, if_pos h0]
      · rw [if_neg h0, if_neg h0]
        rcases hj with hj | hj
        · exact h j (by omega)
        · exact hj
    · rw [if_neg hc, if_neg hc]
      refine loI_pt a _ _ j (fun i hi => ?_) ?_
      · unfold updN
        rw [if_neg (by omega), if_neg (by omega)]
        exact h i (by omega)
      · unfold updN
        by_cases h0 : j = a + 1
        · exact Or.inr (by rw [if_pos h0, if_pos h0])
        · rw [if_neg h0, if_neg h0]
          rcases hj with hj | hj
          · exact Or.inl (by omega)
          · exact Or.inr hj
theorem loR_pt {k : Nat} {g : Nat → Int32} : ∀ (s : Nat) (od od' : Nat → Nat) (j : Nat), (j < s ∨ od j = od' j) → loR k g s od j = loR k g s od' j
  | 0, od, od', j, h => h.resolve_left (by omega)
  | s + 1, od, od', j, h => loI_pt s _ _ j (fun i hi => loR_pt s od od' i (Or.inl hi)) (by
      rcases h with h | h
      · exact Or.inl (by omega)
      · exact Or.inr (loR_pt s od od' j (Or.inr h)))
theorem w2_pt {od od' : Nat → Nat} : ∀ (n k : Nat) (D : gDom) (v : Int32) (s : Nat), (∀ j, j < k + n → od j = od' j) → w2 od n k D v s = w2 od' n k D v s
  | 0, _, _, _, _, _ => rfl
  | n + 1, k, D, v, s, h => by
    unfold w2
    rw [h k (by omega)]
    exact w2_pt n (k + 1) _ _ _ (fun j hj => h j (by omega))
def od0 : Nat → Nat := fun _ => 0
theorem odOK_0 : odOK od0 := fun _ => by unfold od0; decide
theorem rwC_od (D : gDom) (od : Nat → Nat) : rwC D od = rwC D od0 := by
  unfold rwC
  exact w2_pt _ _ _ _ _ (fun j hj => loR_pt _ _ _ j (Or.inl (by omega)))
/-- a day of the reference: the dome behind it, the cubes that came in; the order of its sections -/
def cwD (D : gDom) : gDom := rwD D od0
def cwL (D : gDom) : Int32 := (rwC D od0).2.1
def ord (D : gDom) (p : Nat) : Nat := rwO D od0 p
theorem rwD_od (D : gDom) (od : Nat → Nat) : rwD D od = cwD D := by
  unfold cwD rwD
  rw [rwC_od D od]
theorem rwV_od (D : gDom) (od : Nat → Nat) : (rwC D od).2.1 = cwL D := by
  unfold cwL
  rw [rwC_od D od]
theorem rwO_od (D : gDom) (od : Nat → Nat) {p : Nat} (hp : p < dSz D) : rwO D od p = ord D p := loR_pt _ _ _ p (Or.inl hp)
def dyC (D : gDom) : Nat → gDom × Int32
  | 0 => (D, 0)
  | n + 1 => (cwD (dyC D n).1, (dyC D n).2 + cwL (dyC D n).1)
theorem dyR_C (D : gDom) (od : Nat → Nat) (st : Nat) : ∀ n, (dyR D od st n).1 = (dyC D n).1 ∧ (dyR D od st n).2.2.2 = (dyC D n).2
  | 0 => ⟨rfl, rfl⟩
  | n + 1 => by
    obtain ⟨a, b⟩ := dyR_C D od st n
    refine ⟨?_, ?_⟩
    · show rwD (dyR D od st n).1 (dyR D od st n).2.1 = cwD (dyC D n).1
      rw [rwD_od, a]
    · show (dyR D od st n).2.2.2 + (rwC (dyR D od st n).1 (dyR D od st n).2.1).2.1 = (dyC D n).2 + cwL (dyC D n).1
      rw [rwV_od, a, b]
theorem rOK_cw {D : gDom} (h : rOK D) : rOK (cwD D) ∧ dSt (cwD D) = dSt D := rOK_D od0 h
theorem dyC_ok {D : gDom} (h : rOK D) : ∀ n, rOK (dyC D n).1 ∧ dSt (dyC D n).1 = dSt D
  | 0 => ⟨h, rfl⟩
  | n + 1 => by
    obtain ⟨a, b⟩ := dyC_ok h n
    obtain ⟨c, d⟩ := rOK_cw a
    exact ⟨c, d.trans b⟩
/-- a contract whose end is weaker -/
theorem gM_wk {K : gK} {R : Room} {as : List Value} {h : gH} {E E' : gO → gH → Prop} (hE : ∀ o h', E o h' → E' o h') (m : gM K R as h E) : gM K R as h E' := by
  intro la hla G sc ad sz
  refine Jvm.Free.MetFree.mono (m la hla G sc ad sz) (fun _ _ h => h) (fun _ _ _ _ _ h => h) ?_
  intro a s o s' _ h
  rcases h with ⟨⟨⟨ad', v, h', h1, h2, h3, h4, h5, h6⟩, hF⟩, hL⟩ | ⟨q, hq, Ex, ce, L, ⟨⟨h', h2, h3⟩, hF⟩, rest⟩
  · exact Or.inl ⟨⟨⟨ad', v, h', h1, hE _ _ h2, h3, h4, h5, h6⟩, hF⟩, hL⟩
  · exact Or.inr ⟨q, hq, Ex, ce, L, ⟨⟨h', hE _ _ h2, h3⟩, hF⟩, rest⟩
/-- the value of a section's property, by the order -/
def sVr (D : gDom) (p k : Nat) : Int32 := if k = 5 then bI (decide (dG D (ord D p * 5 + 3) < dDy D)) else dG D (ord D p * 5 + k)
def s2D (D : gDom) (v : Int32) : gDom := (dTr D, dG D, dSz D, dC D, upd (dSt D) 2 v, D.2.2.2.2.2)
theorem rOK_2 {D : gDom} (h : rOK D) (v : Int32) : rOK (s2D D v) := h
theorem u2_back (f : Nat → Int32) (a b : Int32) : upd (upd (upd f 2 a) 2 b) 2 (f 2) = f := by
  funext j
  unfold upd
  by_cases h : j = 2
  · rw [if_pos h, h]
  · rw [if_neg h, if_neg h, if_neg h]
def dtC (x : Int32) : Nat → Nat → gDom → Int32
  | 0, _, _ => -1
  | n + 1, day, D => if plL (dG (cwD D)) x (dSz (cwD D)) = -1 then nI day else dtC x n (day + 1) (cwD D)
def bfC (a b c e : Int32) : Int32 := if a < c then 1 else if c = a then bI (decide (e < b)) else 0
/-- the better order for d days -/
def bfI (D : gDom) (d : Nat) : Int32 := bfC (dDn (dyC (s2D D 0) d).1 - dDn D) (dLd (dyC (s2D D 0) d).1 - dLd D) (dDn (dyC (s2D D 1) d).1 - dDn D) (dLd (dyC (s2D D 1) d).1 - dLd D)
theorem u2_tw (f : Nat → Int32) (a b : Int32) : upd (upd f 2 a) 2 b = upd f 2 b := by
  funext j
  unfold upd
  by_cases h : j = 2
  · rw [if_pos h, if_pos h]
  · rw [if_neg h, if_neg h, if_neg h]
theorem u2_b2 (f : Nat → Int32) (a : Int32) : upd (upd f 2 a) 2 (f 2) = f := by
  funext j
  unfold upd
  by_cases h : j = 2
  · rw [if_pos h, h]
  · rw [if_neg h, if_neg h]
def shV (D : gDom) : UInt64 := if sum4 (dCu D) = 0 then FP.dconst1 else FP.ddiv (FP.i2d (sum4 (dLa D))) (FP.i2d (sum4 (dCu D)))
def brL : Nat → UInt64 → Int64 → UInt64 × Int64
  | 0, v, p => (v, p)
  | n + 1, v, p => if 0 ≤ Op.cmpValue (FP.dcmp v FP.dconst1) .g then (v, p) else brL n (FP.dmul v 4611686018427387904) (p - 1)
/-- n doublings are enough, and none of them is no number -/
def brK : Nat → UInt64 → Prop
  | 0, v => 0 ≤ Op.cmpValue (FP.dcmp v FP.dconst1) .g
  | n + 1, v => ¬ 0 ≤ Op.cmpValue (FP.dcmp v FP.dconst1) .g → vf_n64 (FP.dmul v 4611686018427387904) ∧ brK n (FP.dmul v 4611686018427387904)
def brE (x : UInt64 × Int64) : Int64 := (x.2 <<< ((52 : Int32).toInt64 &&& 63)) + FP.d2l (FP.dmul x.1 4841369599423283200) - 4503599627370496
def brV (N : Nat) (x : UInt64) : Int64 := if Op.cmpValue (FP.dcmp x FP.dconst0) .l = 0 then 0 else brE (brL N x 1023)
def brQ (N : Nat) (x : UInt64) : Prop := Op.cmpValue (FP.dcmp x 4611686018427387904) .l < 0 ∧ brK N x ∧ vf_n64 (FP.dmul (brL N x 1023).1 4841369599423283200)
