/-! GoldSheets$SectionText. Printed by wip/whole/meths4.py -/
/-- codes, length, the parts that were read: tones, cubes, days, how many; stage; the part under way -/
abbrev gTxt : Type := (Nat → Int32) × Nat × (Nat → Int32) × (Nat → Int32) × (Nat → Int32) × Nat × Nat × Int32 × Int32 × Int32
abbrev xCod (T : gTxt) : Nat → Int32 := T.1
abbrev xLen (T : gTxt) : Nat := T.2.1
abbrev xTon (T : gTxt) : Nat → Int32 := T.2.2.1
abbrev xCub (T : gTxt) : Nat → Int32 := T.2.2.2.1
abbrev xDay (T : gTxt) : Nat → Int32 := T.2.2.2.2.1
abbrev xPrt (T : gTxt) : Nat := T.2.2.2.2.2.1
abbrev xStg (T : gTxt) : Nat := T.2.2.2.2.2.2.1
abbrev xT (T : gTxt) : Int32 := T.2.2.2.2.2.2.2.1
abbrev xC (T : gTxt) : Int32 := T.2.2.2.2.2.2.2.2.1
abbrev xD (T : gTxt) : Int32 := T.2.2.2.2.2.2.2.2.2
abbrev cTx (b : Nat) (T : gTxt) : gH := [cO 4 [.ref (b + 1), .int (nI (xLen T)), .ref (b + 2), .ref (b + 3), .ref (b + 4), .int (nI (xPrt T)), .int (nI (xStg T)), .int (xT T), .int (xC T), .int (xD T)], cI 60 (xCod T), cI 12 (xTon T), cI 12 (xCub T), cI 12 (xDay T)]
theorem nar_b (b : Bool) : narrow .boolean (.int (bI b)) = .int (bI b) := by cases b <;> rfl
def txOK (T : gTxt) : Prop := xLen T ≤ 60 ∧ xPrt T ≤ 12 ∧ xStg T ≤ 4
def dig (c : Int32) : Bool := decide (48 ≤ c) && decide (c ≤ 57)

def aF (T : gTxt) (c : Int32) : Bool × gTxt := if c < 49 then (false, T) else if c ≤ 57 then (true, (xCod T, xLen T, xTon T, xCub T, xDay T, xPrt T, 1, xT T, c - 48, xD T)) else (false, T)
def aCn (T : gTxt) (c : Int32) : Bool × gTxt := if bI (dig c) = 0 then (false, T) else if 10 * xC T + c - 48 ≤ 500 then (true, (xCod T, xLen T, xTon T, xCub T, xDay T, xPrt T, xStg T, xT T, 10 * xC T + c - 48, xD T)) else (false, T)
def aC (T : gTxt) (c : Int32) : Bool × gTxt := if c < 97 then aCn T c else if 101 ≤ c then aCn T c else (true, (xCod T, xLen T, xTon T, xCub T, xDay T, xPrt T, 2, c - 97, xC T, xD T))
def aA (T : gTxt) (c : Int32) : Bool × gTxt := if c = 64 then (true, (xCod T, xLen T, xTon T, xCub T, xDay T, xPrt T, 3, xT T, xC T, xD T)) else (false, T)
def aE (T : gTxt) (c : Int32) : Bool × gTxt := if bI (dig c) = 0 then (false, T) else (true, (xCod T, xLen T, xTon T, xCub T, xDay T, xPrt T, 4, xT T, xC T, c - 48))
def kp (T : gTxt) : gTxt := if 12 ≤ xPrt T then T else (xCod T, xLen T, upd (xTon T) (xPrt T) (xT T), upd (xCub T) (xPrt T) (xC T), upd (xDay T) (xPrt T) (xD T), xPrt T + 1, xStg T, xT T, xC T, xD T)
def stg0 (T : gTxt) : gTxt := (xCod T, xLen T, xTon T, xCub T, xDay T, xPrt T, 0, xT T, xC T, xD T)
def aD (T : gTxt) (c : Int32) : Bool × gTxt := if c = 59 then (true, stg0 (kp T)) else if bI (dig c) = 0 then (false, T) else if xD T = 0 then (false, T) else if 10 * xD T + c - 48 ≤ 999 then (true, (xCod T, xLen T, xTon T, xCub T, xDay T, xPrt T, xStg T, xT T, xC T, 10 * xD T + c - 48)) else (false, T)
def acc (T : gTxt) (c : Int32) : Bool × gTxt := if xStg T = 0 then aF T c else if xStg T = 1 then aC T c else if xStg T = 2 then aA T c else if xStg T = 3 then aE T c else aD T c
theorem kp_ok {T : gTxt} (h : txOK T) : txOK (kp T) ∧ xLen (kp T) = xLen T ∧ xCod (kp T) = xCod T := by
  unfold kp
  obtain ⟨h1, h2, h3⟩ := h
  split
  · exact ⟨⟨h1, h2, h3⟩, rfl, rfl⟩
  · exact ⟨⟨h1, by show xPrt T + 1 ≤ 12; omega, h3⟩, rfl, rfl⟩
theorem acc_ok {T : gTxt} (c : Int32) (h : txOK T) : txOK (acc T c).2 ∧ xLen (acc T c).2 = xLen T ∧ xCod (acc T c).2 = xCod T := by
  obtain ⟨h1, h2, h3⟩ := id h
  unfold acc
  split
  · unfold aF
    split
    · exact ⟨h, rfl, rfl⟩
    · split
      · exact ⟨⟨h1, h2, Nat.le_of_ble_eq_true rfl⟩, rfl, rfl⟩
      · exact ⟨h, rfl, rfl⟩
  · have hn : txOK (aCn T c).2 ∧ xLen (aCn T c).2 = xLen T ∧ xCod (aCn T c).2 = xCod T := by
      unfold aCn
      split
      · exact ⟨h, rfl, rfl⟩
      · split
        · exact ⟨⟨h1, h2, h3⟩, rfl, rfl⟩
        · exact ⟨h, rfl, rfl⟩
    split
    · unfold aC
      split
      · exact hn
      · split
        · exact hn
        · exact ⟨⟨h1, h2, Nat.le_of_ble_eq_true rfl⟩, rfl, rfl⟩
    · split
      · unfold aA
        split
        · exact ⟨⟨h1, h2, Nat.le_of_ble_eq_true rfl⟩, rfl, rfl⟩
        · exact ⟨h, rfl, rfl⟩
      · split
        · unfold aE
          split
          · exact ⟨h, rfl, rfl⟩
          · exact ⟨⟨h1, h2, Nat.le_of_ble_eq_true rfl⟩, rfl, rfl⟩
        · unfold aD
          split
          · obtain ⟨k1, k2, k3⟩ := kp_ok h
            exact ⟨⟨k1.1, k1.2.1, Nat.zero_le _⟩, k2, k3⟩
          · split
            · exact ⟨h, rfl, rfl⟩
            · split
              · exact ⟨h, rfl, rfl⟩
              · split
                · exact ⟨⟨h1, h2, h3⟩, rfl, rfl⟩
                · exact ⟨h, rfl, rfl⟩

def rdR (n : Nat) (i : Nat) (T : gTxt) : Nat × gTxt := match n with
  | 0 => (i, T)
  | n + 1 => if bI (acc T (xCod T i)).1 = 0 then (i, (acc T (xCod T i)).2) else rdR n (i + 1) (acc T (xCod T i)).2
def rst (T : gTxt) : gTxt := (xCod T, xLen T, xTon T, xCub T, xDay T, 0, 0, xT T, xC T, xD T)
/-- the first syntax error's place, or the length; and what was read -/
def rdT (T : gTxt) : Nat × gTxt := rdR (xLen T) 0 (rst T)
theorem rdR_ok : ∀ (n i : Nat) (T : gTxt), txOK T → i + n = xLen T → txOK (rdR n i T).2 ∧ xLen (rdR n i T).2 = xLen T ∧ xCod (rdR n i T).2 = xCod T ∧ (rdR n i T).1 ≤ xLen T
  | 0, i, T, h, hi => ⟨h, rfl, rfl, by show i ≤ xLen T; omega⟩
  | n + 1, i, T, h, hi => by
    obtain ⟨a1, a2, a3⟩ := acc_ok (xCod T i) h
    unfold rdR
    split
    · exact ⟨a1, a2, a3, by show i ≤ xLen T; omega⟩
    · obtain ⟨b1, b2, b3, b4⟩ := rdR_ok n (i + 1) (acc T (xCod T i)).2 a1 (by rw [a2]; omega)
      exact ⟨b1, b2.trans a2, b3.trans a3, by rw [a2] at b4; exact b4⟩
theorem rdT_ok {T : gTxt} (h : txOK T) : txOK (rdT T).2 ∧ xLen (rdT T).2 = xLen T ∧ xCod (rdT T).2 = xCod T ∧ (rdT T).1 ≤ xLen T := rdR_ok (xLen T) 0 (rst T) ⟨h.1, Nat.zero_le _, Nat.zero_le _⟩ (Nat.zero_add _)
def adT (T : gTxt) (v : Int32) : gTxt := (upd (xCod T) (xLen T) v, xLen T + 1, T.2.2)
def erT (T : gTxt) : gTxt := (xCod T, 0, T.2.2)

def rsT (T : gTxt) : Bool × gTxt := if (rdT T).1 < xLen T then (false, (rdT T).2) else if xStg (rdT T).2 = 4 then (true, kp (rdT T).2) else (false, (rdT T).2)
