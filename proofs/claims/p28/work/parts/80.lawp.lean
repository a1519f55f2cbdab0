/-! THE LAW's own reckoning: what its small methods answer -/
theorem gmul2 {x y : Int32} {a b : Nat} (h1 : x = nI a) (h2 : y = nI b) : x * y = nI (b * a) := by rw [h1, h2, pk_mul, Nat.mul_comm]
theorem gdivn {x y : Int32} {a b : Nat} (h1 : x = nI a) (h2 : y = nI b) (ha : a < 2 ^ 31) (h0 : 0 < b) (hb : b < 2 ^ 31) : x / y = nI (a / b) := by rw [h1, h2, pk_div ha h0 hb]
/-- the law's rows t and c -/
def tF7 (a b c d e : Int32) (n : Nat) (f : Int32) (i : Nat) : Int32 := match i with
  | 0 => a
  | 1 => b
  | 2 => c
  | 3 => d
  | 4 => e
  | 5 => nI n
  | 6 => f
  | _ => 0
def cF4 (sh cu sw la : Nat → Int32) (i : Nat) : Int32 := if i < 4 then sh i else if i < 8 then cu (i - 4) else if i < 12 then sw (i - 8) else if i < 16 then la (i - 12) else 0
theorem tF7_ext {F G : Nat → Int32} (h : ∀ i, i < 7 → F i = G i) (h2 : ∀ i, F (i + 7) = G (i + 7)) : F = G := by
  funext i
  by_cases hi : i < 7
  · exact h i hi
  · obtain ⟨k, rfl⟩ : ∃ k, i = k + 7 := ⟨i - 7, by omega⟩
    exact h2 k
theorem tF7_u (a b c d e f x : Int32) (n : Nat) : upd (tF7 a b c d e n f) 0 x = tF7 x b c d e n f ∧ upd (tF7 a b c d e n f) 1 x = tF7 a x c d e n f ∧ upd (tF7 a b c d e n f) 2 x = tF7 a b x d e n f ∧ upd (tF7 a b c d e n f) 3 x = tF7 a b c x e n f ∧ upd (tF7 a b c d e n f) 4 x = tF7 a b c d x n f ∧ (∀ m, upd (tF7 a b c d e n f) 5 (nI m) = tF7 a b c d e m f) ∧ upd (tF7 a b c d e n f) 6 x = tF7 a b c d e n x := by
  refine ⟨?_, ?_, ?_, ?_, ?_, fun m => ?_, ?_⟩
  all_goals
    refine tF7_ext (fun i hi => ?_) (fun i => ?_)
    · obtain rfl | rfl | rfl | rfl | rfl | rfl | rfl : i = 0 ∨ i = 1 ∨ i = 2 ∨ i = 3 ∨ i = 4 ∨ i = 5 ∨ i = 6 := by omega
      all_goals rfl
    · rw [pk_un (by omega)]
      rfl
theorem cF4_sh (sh cu sw la : Nat → Int32) {k : Nat} (h : k < 4) : cF4 sh cu sw la k = sh k := if_pos h
theorem cF4_cu (sh cu sw la : Nat → Int32) {k : Nat} (h : k < 4) : cF4 sh cu sw la (4 + k) = cu k := by
  unfold cF4
  rw [if_neg (by omega), if_pos (by omega), Nat.add_sub_cancel_left]
theorem cF4_sw (sh cu sw la : Nat → Int32) {k : Nat} (h : k < 4) : cF4 sh cu sw la (8 + k) = sw k := by
  unfold cF4
  rw [if_neg (by omega), if_neg (by omega), if_pos (by omega), Nat.add_sub_cancel_left]
theorem cF4_la (sh cu sw la : Nat → Int32) {k : Nat} (h : k < 4) : cF4 sh cu sw la (12 + k) = la k := by
  unfold cF4
  rw [if_neg (by omega), if_neg (by omega), if_neg (by omega), if_pos (by omega), Nat.add_sub_cancel_left]
theorem cF4_ext {F : Nat → Int32} {sh cu sw la : Nat → Int32} (h0 : ∀ i, i < 4 → F i = sh i) (h1 : ∀ i, i < 4 → F (4 + i) = cu i) (h2 : ∀ i, i < 4 → F (8 + i) = sw i) (h3 : ∀ i, i < 4 → F (12 + i) = la i) (h4 : ∀ i, F (i + 16) = 0) : F = cF4 sh cu sw la := by
  funext i
  by_cases a0 : i < 4
  · rw [cF4_sh _ _ _ _ a0, h0 i a0]
  by_cases a1 : i < 8
  · obtain ⟨k, rfl⟩ : ∃ k, i = 4 + k := ⟨i - 4, by omega⟩
    rw [cF4_cu _ _ _ _ (by omega), h1 k (by omega)]
  by_cases a2 : i < 12
  · obtain ⟨k, rfl⟩ : ∃ k, i = 8 + k := ⟨i - 8, by omega⟩
    rw [cF4_sw _ _ _ _ (by omega), h2 k (by omega)]
  by_cases a3 : i < 16
  · obtain ⟨k, rfl⟩ : ∃ k, i = 12 + k := ⟨i - 12, by omega⟩
    rw [cF4_la _ _ _ _ (by omega), h3 k (by omega)]
  · obtain ⟨k, rfl⟩ : ∃ k, i = k + 16 := ⟨i - 16, by omega⟩
    rw [h4]
    unfold cF4
    rw [if_neg a0, if_neg a1, if_neg a2, if_neg a3]
theorem cF4_z (sh cu sw la : Nat → Int32) (i : Nat) : cF4 sh cu sw la (i + 16) = 0 := by
  unfold cF4
  rw [if_neg (by omega), if_neg (by omega), if_neg (by omega), if_neg (by omega)]
theorem upd_c (f : Nat → Int32) (k i b : Nat) (v : Int32) : upd f (b + k) v (b + i) = if i = k then v else f (b + i) := by
  by_cases h : i = k
  · rw [if_pos h, h, pk_us]
  · rw [if_neg h, pk_un (by omega)]
theorem cF4_u0 (sh cu sw la : Nat → Int32) {k : Nat} (h : k < 4) (v : Int32) : upd (cF4 sh cu sw la) k v = cF4 (upd sh k v) cu sw la := by
  refine cF4_ext (fun i hi => ?_) (fun i hi => ?_) (fun i hi => ?_) (fun i hi => ?_) (fun i => ?_)
  · by_cases e : i = k
    · rw [e, pk_us, pk_us]
    · rw [pk_un e, pk_un e, cF4_sh _ _ _ _ hi]
  · rw [pk_un (by omega), cF4_cu _ _ _ _ hi]
  · rw [pk_un (by omega), cF4_sw _ _ _ _ hi]
  · rw [pk_un (by omega), cF4_la _ _ _ _ hi]
  · rw [pk_un (by omega), cF4_z]
theorem cF4_u4 (sh cu sw la : Nat → Int32) {k : Nat} (h : k < 4) (v : Int32) : upd (cF4 sh cu sw la) (4 + k) v = cF4 sh (upd cu k v) sw la := by
  refine cF4_ext (fun i hi => ?_) (fun i hi => ?_) (fun i hi => ?_) (fun i hi => ?_) (fun i => ?_)
  · rw [pk_un (by omega), cF4_sh _ _ _ _ hi]
  · rw [upd_c, cF4_cu _ _ _ _ hi]
    rfl
  · rw [pk_un (by omega), cF4_sw _ _ _ _ hi]
  · rw [pk_un (by omega), cF4_la _ _ _ _ hi]
  · rw [pk_un (by omega), cF4_z]
theorem cF4_u8 (sh cu sw la : Nat → Int32) {k : Nat} (h : k < 4) (v : Int32) : upd (cF4 sh cu sw la) (8 + k) v = cF4 sh cu (upd sw k v) la := by
  refine cF4_ext (fun i hi => ?_) (fun i hi => ?_) (fun i hi => ?_) (fun i hi => ?_) (fun i => ?_)
  · rw [pk_un (by omega), cF4_sh _ _ _ _ hi]
  · rw [pk_un (by omega), cF4_cu _ _ _ _ hi]
  · rw [upd_c, cF4_sw _ _ _ _ hi]
    rfl
  · rw [pk_un (by omega), cF4_la _ _ _ _ hi]
  · rw [pk_un (by omega), cF4_z]
theorem cF4_u12 (sh cu sw la : Nat → Int32) {k : Nat} (h : k < 4) (v : Int32) : upd (cF4 sh cu sw la) (12 + k) v = cF4 sh cu sw (upd la k v) := by
  refine cF4_ext (fun i hi => ?_) (fun i hi => ?_) (fun i hi => ?_) (fun i hi => ?_) (fun i => ?_)
  · rw [pk_un (by omega), cF4_sh _ _ _ _ hi]
  · rw [pk_un (by omega), cF4_cu _ _ _ _ hi]
  · rw [pk_un (by omega), cF4_sw _ _ _ _ hi]
  · rw [upd_c, cF4_la _ _ _ _ hi]
    rfl
  · rw [pk_un (by omega), cF4_z]
/-! trays -/
theorem lsum_e (f : Nat → Int32) (a : Nat) : f (a * 4) + f (a * 4 + 1) + f (a * 4 + 2) + f (a * 4 + 3) = hA f a := by
  unfold hA
  rw [Int32.zero_add]
  rfl
/-- of the first i tones of a tray: the most cubes -/
def mx (f : Nat → Int32) (a : Nat) : Nat → Int32
  | 0 => 0
  | i + 1 => if f (a * 4 + i) ≤ mx f a i then mx f a i else f (a * 4 + i)
theorem mx_t (f : Nat → Int32) (a i : Nat) : (mx f a (i + 1)).toInt = max (mx f a i).toInt (f (a * 4 + i)).toInt := by
  show (if f (a * 4 + i) ≤ mx f a i then mx f a i else f (a * 4 + i)).toInt = _
  split
  · have := ile.mp ‹_›
    omega
  · have := mt ile.mpr ‹_›
    omega
/-- a tray is mixed up -/
def mxb (f : Nat → Int32) (a : Nat) : Bool := decide (1 < tn f a)
theorem mx_r {f : Nat → Int32} (h : trI f) {a : Nat} (ha : a < 6) : mx f a 4 < hA f a ↔ 1 < tn f a := by
  have h0 := (h.cell ha (show 0 < 4 by omega)).1
  have h1 := (h.cell ha (show 1 < 4 by omega)).1
  have h2 := (h.cell ha (show 2 < 4 by omega)).1
  have h3 := (h.cell ha (show 3 < 4 by omega)).1
  have e : (hA f a).toInt = (f (a * 4 + 0)).toInt + (f (a * 4 + 1)).toInt + (f (a * 4 + 2)).toInt + (f (a * 4 + 3)).toInt := h.hA ha
  have m0 : (mx f a 0).toInt = 0 := i0
  have m1 : (mx f a 1).toInt = max (mx f a 0).toInt (f (a * 4 + 0)).toInt := mx_t f a 0
  have m2 : (mx f a 2).toInt = max (mx f a 1).toInt (f (a * 4 + 1)).toInt := mx_t f a 1
  have m3 : (mx f a 3).toInt = max (mx f a 2).toInt (f (a * 4 + 2)).toInt := mx_t f a 2
  have m4 : (mx f a 4).toInt = max (mx f a 3).toInt (f (a * 4 + 3)).toInt := mx_t f a 3
  have t0 : tnc f a 0 = 0 := rfl
  have z : ∀ x : Int32, x ≤ 0 ↔ x.toInt ≤ 0 := fun x => by rw [ile, i0]
  rw [ilt, e]
  have tt : tn f a = tnc f a 4 := rfl
  have q1 : tnc f a 1 = if f (a * 4 + 0) ≤ 0 then tnc f a 0 else tnc f a 0 + 1 := rfl
  have q2 : tnc f a 2 = if f (a * 4 + 1) ≤ 0 then tnc f a 1 else tnc f a 1 + 1 := rfl
  have q3 : tnc f a 3 = if f (a * 4 + 2) ≤ 0 then tnc f a 2 else tnc f a 2 + 1 := rfl
  have q4 : tnc f a 4 = if f (a * 4 + 3) ≤ 0 then tnc f a 3 else tnc f a 3 + 1 := rfl
  rw [tt]
  by_cases c0 : f (a * 4 + 0) ≤ 0
  all_goals
    by_cases c1 : f (a * 4 + 1) ≤ 0
    all_goals
      by_cases c2 : f (a * 4 + 2) ≤ 0
      all_goals
        by_cases c3 : f (a * 4 + 3) ≤ 0
        all_goals
          simp only [c0, ↓reduceIte] at q1
          simp only [c1, ↓reduceIte] at q2
          simp only [c2, ↓reduceIte] at q3
          simp only [c3, ↓reduceIte] at q4
          rw [z] at c0 c1 c2 c3
          omega
/-- what is poured, as the law reckons it -/
def prL (f : Nat → Int32) (r : Int32) (a b t : Nat) : Int32 := if r - hA f b < 0 then 0 else if r - hA f b < f (a * 4 + t) then r - hA f b else f (a * 4 + t)
theorem prL_r {f : Nat → Int32} (h : trI f) {a b t : Nat} (ha : a < 6) (ht : t < 4) (r : Int32) : prL f r a b t = pmI f a t (frI f b r) := by
  have h0 := (h.cell ha ht).1
  unfold prL pmI frI
  by_cases c : r - hA f b < 0
  · have c' := ilt.mp c
    rw [i0] at c'
    rw [if_pos c, show (if 0 < r - hA f b then r - hA f b else 0) = (0 : Int32) from if_neg (by rw [ilt, i0]; omega)]
    split
    · rfl
    · have := mt ilt.mpr ‹_›
      rw [ieq]
      rw [i0] at this ⊢
      omega
  · rw [if_neg c]
    by_cases d : 0 < r - hA f b
    · rw [if_pos d]
    · rw [if_neg d]
      have e : r - hA f b = 0 := by
        have h1 := mt ilt.mpr c
        have h2 := mt ilt.mpr d
        rw [i0] at h1 h2
        rw [ieq, i0]
        omega
      rw [e]
theorem pourL_e (f : Nat → Int32) (a b t : Nat) (m : Int32) : upd (upd f (a * 4 + t) (f (a * 4 + t) - m)) (b * 4 + t) (upd f (a * 4 + t) (f (a * 4 + t) - m) (b * 4 + t) + m) = pourF f a b t m := by
  unfold pourF
  rw [Int32.sub_eq_add_neg]
/-- the tone of which there are most, from the highest down -/
def mdL (f : Nat → Int32) (a : Nat) : Nat → Nat → Nat
  | 0, m => m
  | p + 1, m => if f (a * 4 + p) < f (a * 4 + m) then mdL f a p m else mdL f a p p
theorem mdL_r (f : Nat → Int32) (a : Nat) : mdL f a 4 0 = moc f a 3 := by
  have top : ∀ i, moc f a i ≤ i ∧ (∀ k, k ≤ i → (f (a * 4 + k)).toInt ≤ (f (a * 4 + moc f a i)).toInt) ∧ ∀ k, k < moc f a i → (f (a * 4 + k)).toInt < (f (a * 4 + moc f a i)).toInt := by
    intro i
    induction i with
    | zero =>
      refine ⟨Nat.le_refl _, fun k hk => ?_, fun k hk => absurd hk (Nat.not_lt_zero _)⟩
      obtain rfl : k = 0 := by omega
      exact Int.le_refl _
    | succ i ih =>
      obtain ⟨h1, h2, h3⟩ := ih
      unfold moc
      by_cases c : f (a * 4 + (i + 1)) ≤ f (a * 4 + moc f a i)
      · rw [if_pos c]
        have c' := ile.mp c
        refine ⟨by omega, fun k hk => ?_, h3⟩
        by_cases e : k = i + 1
        · rw [e]; exact c'
        · exact h2 k (by omega)
      · rw [if_neg c]
        have c' := mt ile.mpr c
        refine ⟨Nat.le_refl _, fun k hk => ?_, fun k hk => ?_⟩
        · by_cases e : k = i + 1
          · rw [e]; exact Int.le_refl _
          · have := h2 k (by omega)
            omega
        · have := h2 k (by omega)
          omega
  have down : ∀ p m, (m = 0 ∨ p ≤ m) → m < 4 → p ≤ 4 → (∀ k, p ≤ k → k < 4 → (f (a * 4 + k)).toInt ≤ (f (a * 4 + m)).toInt) → (∀ k, p ≤ k → k < m → (f (a * 4 + k)).toInt < (f (a * 4 + m)).toInt) → (f (a * 4 + 0)).toInt ≤ (f (a * 4 + m)).toInt → mdL f a p m < 4 ∧ (∀ k, k < 4 → (f (a * 4 + k)).toInt ≤ (f (a * 4 + mdL f a p m)).toInt) ∧ ∀ k, k < mdL f a p m → (f (a * 4 + k)).toInt < (f (a * 4 + mdL f a p m)).toInt := by
    intro p
    induction p with
    | zero => exact fun m _ h4 _ h1 h2 _ => ⟨h4, fun k hk => h1 k (Nat.zero_le _) hk, fun k hk => h2 k (Nat.zero_le _) hk⟩
    | succ p ih =>
      intro m hm h4 hp h1 h2 h0
      unfold mdL
      by_cases c : f (a * 4 + p) < f (a * 4 + m)
      · rw [if_pos c]
        have c' := ilt.mp c
        refine ih m (by omega) h4 (by omega) (fun k hk hk4 => ?_) (fun k hk hkm => ?_) h0
        · by_cases e : k = p
          · rw [e]; omega
          · exact h1 k (by omega) hk4
        · by_cases e : k = p
          · rw [e]; exact c'
          · exact h2 k (by omega) hkm
      · rw [if_neg c]
        have c' := mt ilt.mpr c
        refine ih p (Or.inr (Nat.le_refl _)) (by omega) (by omega) (fun k hk hk4 => ?_) (fun k hk hkm => by omega) (by omega)
        by_cases e : k = p
        · rw [e]; exact Int.le_refl _
        · have := h1 k (by omega) hk4
          omega
  obtain ⟨a1, a2, a3⟩ := top 3
  obtain ⟨b1, b2, b3⟩ := down 4 0 (Or.inl rfl) (by omega) (Nat.le_refl _) (fun k hk hk4 => by omega) (fun k hk hkm => by omega) (Int.le_refl _)
  rcases Nat.lt_trichotomy (mdL f a 4 0) (moc f a 3) with l | l | l
  · have := a3 _ l
    have := b2 (moc f a 3) (by omega)
    omega
  · exact l
  · have := b3 _ l
    have := a2 (mdL f a 4 0) (by omega)
    omega
/-- a sorting step of the law -/
def slS (a k : Nat) (r : Int32) (f : Nat → Int32) (t : Nat) : Nat → Int32 := if t = k then f else if etI f = -1 then f else pourF f a (tnx (etI f)) t (pmI f a t (frI f (tnx (etI f)) r))
theorem slS_r {f : Nat → Int32} (h : trI f) {a t : Nat} (k : Nat) (ha : a < 6) (ht : t < 4) {r : Int32} (hr0 : 0 < r.toInt) (hr5 : r.toInt ≤ 500) : slS a k r f t = srS a k r f t := by
  unfold slS srS
  by_cases c : t = k
  · rw [if_pos c, if_pos c]
  rw [if_neg c, if_neg c]
  by_cases d : f (a * 4 + t) ≤ 0
  · rw [if_pos d]
    by_cases e : etI f = -1
    · rw [if_pos e]
    · rw [if_neg e]
      obtain ⟨-, e6⟩ := etI_n e
      have hf := frI_b h e6 (r := r) (by omega) hr5
      have hp := pmI_b h ha ht (r := frI f (tnx (etI f)) r) hf.1
      have := ile.mp d
      rw [i0] at this
      exact pour_z (ieq.mpr (by rw [i0]; omega))
  · rw [if_neg d]
/-- taking, as the law does: not on when nothing is left to take -/
def tkL (t : Nat) : Nat → Nat → (Nat → Int32) → Int32 → Nat → Int32
  | 0, _, f, _ => f
  | n + 1, i, f, l => if l ≤ 0 then f else if 1 < tn f i then tkL t n (i + 1) f l else tkL t n (i + 1) (upd f (i * 4 + t) (f (i * 4 + t) - (if f (i * 4 + t) < l then f (i * 4 + t) else l))) (l - (if f (i * 4 + t) < l then f (i * 4 + t) else l))
theorem lcR_0 {t : Nat} (ht : t < 4) : ∀ (n i : Nat) (f : Nat → Int32), i + n = 6 → trI f → lcR t n i f 0 = f
  | 0, _, _, _, _ => rfl
  | n + 1, i, f, hi, h => by
    have hc := con_b h (show i < 6 by omega) ht
    have hz : lcH f i t 0 = 0 := by
      refine ieq.mpr ?_
      unfold lcH
      rw [lyA_t, i0]
      show min (con f i t).toInt 0 = 0
      omega
    unfold lcR
    rw [hz, Int32.sub_zero, Int32.sub_zero, upd_same]
    exact lcR_0 ht n (i + 1) f (by omega) h
theorem tkL_r {t : Nat} (ht : t < 4) : ∀ (n i : Nat) (f : Nat → Int32) (l : Int32), i + n = 6 → trI f → 0 ≤ l.toInt → l.toInt ≤ 100000 → tkL t n i f l = lcR t n i f l
  | 0, _, _, _, _, _, _, _ => rfl
  | n + 1, i, f, l, hi, h, hl0, hl => by
    have hi6 : i < 6 := by omega
    have hc := con_b h hi6 ht
    have hcell := h.cell hi6 ht
    have hx : (lcH f i t l).toInt = min (con f i t).toInt l.toInt := by
      unfold lcH
      rw [lyA_t]
      rfl
    unfold tkL
    by_cases c : l ≤ 0
    · rw [if_pos c]
      have := ile.mp c
      rw [i0] at this
      have hz : l = 0 := ieq.mpr (by rw [i0]; omega)
      rw [hz]
      exact (lcR_0 ht (n + 1) i f hi h).symm
    · rw [if_neg c]
      by_cases d : 1 < tn f i
      · rw [if_pos d]
        have hcz : con f i t = 0 := if_neg (by omega)
        have hz : lcH f i t l = 0 := ieq.mpr (by rw [hx, hcz, i0]; omega)
        show _ = lcR t n (i + 1) (upd f (i * 4 + t) (f (i * 4 + t) - lcH f i t l)) (l - lcH f i t l)
        rw [hz, Int32.sub_zero, Int32.sub_zero, upd_same]
        exact tkL_r ht n (i + 1) f l (by omega) h hl0 hl
      · rw [if_neg d]
        have hcf : con f i t = f (i * 4 + t) := if_pos (by omega)
        have he : (if f (i * 4 + t) < l then f (i * 4 + t) else l) = lcH f i t l := by
          refine ieq.mpr ?_
          rw [hx, hcf]
          split
          · have := ilt.mp ‹_›
            omega
          · have := mt ilt.mpr ‹_›
            omega
        rw [he]
        rw [hcf] at hx
        have hsub : (f (i * 4 + t) - lcH f i t l).toInt = (f (i * 4 + t)).toInt - (lcH f i t l).toInt := is (by omega) (by omega)
        have hls : (l - lcH f i t l).toInt = l.toInt - (lcH f i t l).toInt := is (by omega) (by omega)
        exact tkL_r ht n (i + 1) _ _ (by omega) (h.upd hi6 ht (by omega) (by omega)) (by omega) (by omega)
/-- one section comes ahead of another one, by the law's difference -/
theorem ahd_lt {x y : Int32} (hx : 0 ≤ x.toInt ∧ x.toInt ≤ 1000) (hy : 0 ≤ y.toInt ∧ y.toInt ≤ 1000) : (x - y < 0 ↔ x < y) ∧ (x - y = 0 ↔ x = y) := by
  have e : (x - y).toInt = x.toInt - y.toInt := is (by omega) (by omega)
  rw [ilt, ilt, ieq, ieq, e, i0]
  omega
theorem cb_lt {k : Nat} {g : Nat → Int32} {p o : Nat} (h : g (p * 5 + k) < g (o * 5 + k)) : bI (cb k g p o) = 1 := by
  by_cases e : g (p * 5 + k) = g (o * 5 + k)
  · rw [e] at h
    exact absurd h Int32.lt_irrefl
  · exact cb_1 e h
theorem mxb_t {f : Nat → Int32} {a : Nat} (h : 1 < tn f a) : bI (mxb f a) = 1 := by simp [mxb, bI, h]
theorem mxb_f {f : Nat → Int32} {a : Nat} (h : ¬ 1 < tn f a) : bI (mxb f a) = 0 := by simp [mxb, bI, h]
theorem mxb_0 {f : Nat → Int32} {a : Nat} (h : bI (mxb f a) = 0) : tn f a ≤ 1 := by
  by_cases c : 1 < tn f a
  · rw [mxb_t c] at h
    exact absurd h (by decide)
  · omega
theorem mxb_1 {f : Nat → Int32} {a : Nat} (h : ¬ bI (mxb f a) = 0) : 1 < tn f a := by
  by_cases c : 1 < tn f a
  · exact c
  · exact absurd (mxb_f c) h
theorem etI_ne {f : Nat → Int32} (h : ¬ etI f < 0) : ∃ e, e < 6 ∧ etI f = nI e ∧ ¬ etI f = -1 := by
  have h1 : ¬ etI f = -1 := fun q => h (by rw [q]; decide)
  obtain ⟨a, b⟩ := etI_n h1
  exact ⟨_, b, a, h1⟩
theorem etI_m1 {f : Nat → Int32} (h : etI f < 0) : etI f = -1 := by
  by_cases c : etI f = -1
  · exact c
  · obtain ⟨a, b⟩ := etI_n c
    rw [a] at h
    exact absurd h (nI_pos (by omega))
theorem slS_e {a k t e : Nat} {r : Int32} {f : Nat → Int32} (hc : ¬ t = k) (he : e < 6) (h : etI f = nI e) (h1 : ¬ etI f = -1) : slS a k r f t = pourF f a e t (pmI f a t (frI f e r)) := by
  unfold slS
  rw [if_neg hc, if_neg h1, h, show tnx (nI e) = e from nI_clamp (by omega)]
theorem lyA_1 {x l : Int32} (h : x ≤ l) : lyA x l = x := by
  unfold lyA
  split
  · exact (Int32.le_antisymm h ‹_›).symm
  · rfl
theorem lyA_2 {x l : Int32} (h : ¬ x ≤ l) : lyA x l = l := if_pos (Int32.le_of_lt (Int32.not_le.mp h))
theorem layFG (g : Nat → Int32) (s : Nat) (v : Int32) : layF g s v = layG g s v := by
  unfold layF layG
  funext i
  by_cases h4 : i = s * 5 + 4
  · subst h4
    rw [pk_us, pk_un (by omega), pk_un (by omega), pk_us]
  · by_cases h2 : i = s * 5 + 2
    · subst h2
      rw [pk_un (by omega), pk_us, pk_us, pk_un (by omega)]
    · rw [pk_un h4, pk_un h2, pk_un h2, pk_un h4]
/-- the cells by which sections are ordered are small -/
def bnd (g : Nat → Int32) (p : Nat) : Prop := (0 ≤ (g (p * 5 + 2)).toInt ∧ (g (p * 5 + 2)).toInt ≤ 1000) ∧ (0 ≤ (g (p * 5 + 3)).toInt ∧ (g (p * 5 + 3)).toInt ≤ 1000)
