/-! THE ABSTRACT MACHINE IS SOUND: gW at the state behind an instruction gives gW ahead of it. Printed by wip/whole/sound.py -/
theorem gml_fil {ad : Nat → Nat} {l : gL} : True := trivial
theorem hD_set {G : gG} {ad : Nat → Nat} {h : gH} {A : Nat → Prop} {a : Nat} {e : gC} (hD : va_D A ((gmw G ad h).set a (ad a, gmc G ad e))) : va_D A (gmw G ad (h.set a e)) := by rw [← gmw_set]; exact hD
theorem hP_set {G : gG} {ad : Nat → Nat} {h : gH} {H : Heap} {a : Nat} {e : gC} (hP : va_P G.1 gcl ((gmw G ad h).set a (ad a, gmc G ad e)) H) : va_P G.1 gcl (gmw G ad (h.set a e)) H := by rw [← gmw_set]; exact hP
theorem gmw_of {G : gG} {ad : Nat → Nat} {h : gH} {k : Nat} {e : gC} (hk : h[k]? = some e) : (gmw G ad h)[k]? = some (ad k, gmc G ad e) := by rw [gmw_at, hk]; rfl
theorem gidx {a : Nat} (h1 : Nat.ble 1000 a = true) (h2 : Nat.blt a 1004 = true) : 1000 ≤ a ∧ a - 1000 < 4 ∧ 1000 + (a - 1000) = a := by
  have h3 : 1000 ≤ a := Nat.le_of_ble_eq_true h1
  have h4 : a < 1004 := Nat.le_of_ble_eq_true h2
  omega
section GS
variable {K : gK} {sc : Nat × (Nat → Int32)} {R : Room} {n0 : Nat} {E : gO → gH → Prop} {cs ss pc : Nat} {l : gL} {st : List Value} {h : gH} {pc' : Nat} {l' : gL} {st' : List Value} {h' : gH} {P : Option Prop}
theorem gs_iconst {n : Int} (hd : decode K.2.2.1 pc = .ok (.iconst n, 1)) (hr : (some (pc + 1, l, .int (Int32.ofInt n) :: st, h, none) : Option gSt) = some (pc', l', st', h', P)) (hp : gpr P) (k : gW K sc R n0 E cs ss pc' l' st' h') : gW K sc R n0 E cs ss pc l st h := by
  cases hr
  intro p la e s m args below meth c G ad0 A X H locs ad ls had hl hP hD hS
  obtain ⟨hx, hb, hml, hown, hts, hK, hamb, hA, -, hlk, -, hmn, -⟩ := id X
  exact lv_iconst hx hb hd rfl (k p la e s m args below meth c G ad0 A X H locs ad ls had hl hP hD hS)
theorem gs_bipush {n : Int} (hd : decode K.2.2.1 pc = .ok (.bipush n, 2)) (hr : (some (pc + 2, l, .int (Int8.ofInt n).toInt32 :: st, h, none) : Option gSt) = some (pc', l', st', h', P)) (hp : gpr P) (k : gW K sc R n0 E cs ss pc' l' st' h') : gW K sc R n0 E cs ss pc l st h := by
  cases hr
  intro p la e s m args below meth c G ad0 A X H locs ad ls had hl hP hD hS
  obtain ⟨hx, hb, hml, hown, hts, hK, hamb, hA, -, hlk, -, hmn, -⟩ := id X
  exact lv_bipush hx hb hd rfl (k p la e s m args below meth c G ad0 A X H locs ad ls had hl hP hD hS)
theorem gs_sipush {n : Int} (hd : decode K.2.2.1 pc = .ok (.sipush n, 3)) (hr : (some (pc + 3, l, .int (Int16.ofInt n).toInt32 :: st, h, none) : Option gSt) = some (pc', l', st', h', P)) (hp : gpr P) (k : gW K sc R n0 E cs ss pc' l' st' h') : gW K sc R n0 E cs ss pc l st h := by
  cases hr
  intro p la e s m args below meth c G ad0 A X H locs ad ls had hl hP hD hS
  obtain ⟨hx, hb, hml, hown, hts, hK, hamb, hA, -, hlk, -, hmn, -⟩ := id X
  exact lv_sipush hx hb hd rfl (k p la e s m args below meth c G ad0 A X H locs ad ls had hl hP hD hS)
theorem gs_lconst {n : Fin 2} (hd : decode K.2.2.1 pc = .ok (.lconst n, 1)) (hr : (some (pc + 1, l, .long (Int64.ofNat n.val) :: st, h, none) : Option gSt) = some (pc', l', st', h', P)) (hp : gpr P) (k : gW K sc R n0 E cs ss pc' l' st' h') : gW K sc R n0 E cs ss pc l st h := by
  cases hr
  intro p la e s m args below meth c G ad0 A X H locs ad ls had hl hP hD hS
  obtain ⟨hx, hb, hml, hown, hts, hK, hamb, hA, -, hlk, -, hmn, -⟩ := id X
  exact lv_lconst hx hb hd rfl (k p la e s m args below meth c G ad0 A X H locs ad ls had hl hP hD hS)
theorem gs_null  (hd : decode K.2.2.1 pc = .ok (.aconst_null, 1)) (hr : (some (pc + 1, l, .null :: st, h, none) : Option gSt) = some (pc', l', st', h', P)) (hp : gpr P) (k : gW K sc R n0 E cs ss pc' l' st' h') : gW K sc R n0 E cs ss pc l st h := by
  cases hr
  intro p la e s m args below meth c G ad0 A X H locs ad ls had hl hP hD hS
  obtain ⟨hx, hb, hml, hown, hts, hK, hamb, hA, -, hlk, -, hmn, -⟩ := id X
  exact lv_null hx hb hd (k p la e s m args below meth c G ad0 A X H locs ad ls had hl hP hD hS)
theorem gs_dconst {n : Fin 2} (hd : decode K.2.2.1 pc = .ok (.dconst n, 1)) (hr : (some (pc + 1, l, .double (match n.val with | 0 => FP.dconst0 | _ => FP.dconst1) :: st, h, none) : Option gSt) = some (pc', l', st', h', P)) (hp : gpr P) (k : gW K sc R n0 E cs ss pc' l' st' h') : gW K sc R n0 E cs ss pc l st h := by
  cases hr
  intro p la e s m args below meth c G ad0 A X H locs ad ls had hl hP hD hS
  obtain ⟨hx, hb, hml, hown, hts, hK, hamb, hA, -, hlk, -, hmn, -⟩ := id X
  match n, hd, k with
  | ⟨0, _⟩, hd, k => exact lv_dconst0 hx hb hd (k p la e s m args below meth c G ad0 A X H locs ad ls had hl hP hD hS)
  | ⟨1, _⟩, hd, k => exact lv_dconst1 hx hb hd (k p la e s m args below meth c G ad0 A X H locs ad ls had hl hP hD hS)
theorem gs_ldc2 {n : Nat} (hd : decode K.2.2.1 pc = .ok (.ldc2_w n, 3)) (hr : (match gLc K.1 n with
    | some x => some (pc + 3, l, .long x :: st, h, none)
    | none => match gDc K.1 n with
      | some x => some (pc + 3, l, .double x :: st, h, none)
      | none => none : Option gSt) = some (pc', l', st', h', P)) (hp : gpr P) (k : gW K sc R n0 E cs ss pc' l' st' h') : gW K sc R n0 E cs ss pc l st h := by
  split at hr
  · rename_i x hq
    cases hr
    intro p la e s m args below meth c G ad0 A X H locs ad ls had hl hP hD hS
    obtain ⟨hx, hb, hml, hown, hts, hK, hamb, hA, -, hlk, -, hmn, -⟩ := id X
    exact lv_ldc2 hx hb hown (hts _ (gLc_ok hq)) hd (k p la e s m args below meth c G ad0 A X H locs ad ls had hl hP hD hS)
  · split at hr
    · rename_i x hq
      cases hr
      intro p la e s m args below meth c G ad0 A X H locs ad ls had hl hP hD hS
      obtain ⟨hx, hb, hml, hown, hts, hK, hamb, hA, -, hlk, -, hmn, -⟩ := id X
      exact lv_ldc2d hx hb hown (hts _ (gDc_ok hq)) hd (k p la e s m args below meth c G ad0 A X H locs ad ls had hl hP hD hS)
    · cases hr
theorem gs_iload {n : Nat} (hd : decode K.2.2.1 pc = .ok (.iload n, 2)) (hr : gldI l n (pc + 2) st h = some (pc', l', st', h', P)) (hp : gpr P) (k : gW K sc R n0 E cs ss pc' l' st' h') : gW K sc R n0 E cs ss pc l st h := by
  unfold gldI at hr
  split at hr
  · rename_i x hq
    cases hr
    intro p la e s m args below meth c G ad0 A X H locs ad ls had hl hP hD hS
    obtain ⟨hx, hb, hml, hown, hts, hK, hamb, hA, -, hlk, -, hmn, -⟩ := id X
    exact lv_iload hx hb hd (gget_at hl hq) (k p la e s m args below meth c G ad0 A X H locs ad ls had hl hP hD hS)
  · cases hr
theorem gs_iload_n {n : Fin 4} (hd : decode K.2.2.1 pc = .ok (.iload_n n, 1)) (hr : gldI l n.val (pc + 1) st h = some (pc', l', st', h', P)) (hp : gpr P) (k : gW K sc R n0 E cs ss pc' l' st' h') : gW K sc R n0 E cs ss pc l st h := by
  unfold gldI at hr
  split at hr
  · rename_i x hq
    cases hr
    intro p la e s m args below meth c G ad0 A X H locs ad ls had hl hP hD hS
    obtain ⟨hx, hb, hml, hown, hts, hK, hamb, hA, -, hlk, -, hmn, -⟩ := id X
    exact lv_iload_n hx hb hd rfl (gget_at hl hq) (k p la e s m args below meth c G ad0 A X H locs ad ls had hl hP hD hS)
  · cases hr
theorem gs_istore {n : Nat} (hd : decode K.2.2.1 pc = .ok (.istore n, 2)) (hr : gstI K.2.2.2.1 l n (pc + 2) st h = some (pc', l', st', h', P)) (hp : gpr P) (k : gW K sc R n0 E cs ss pc' l' st' h') : gW K sc R n0 E cs ss pc l st h := by
  unfold gstI at hr
  split at hr
  · rename_i x r
    cases hb1 : Nat.blt n K.2.2.2.1 with
    | false => rw [hb1] at hr; cases hr
    | true =>
      rw [hb1] at hr
      cases hr
      intro p la e s m args below meth c G ad0 A X H locs ad ls had hl hP hD hS
      obtain ⟨hx, hb, hml, hown, hts, hK, hamb, hA, -, hlk, -, hmn, -⟩ := id X
      have hn : n < K.2.2.2.1 := Nat.le_of_ble_eq_true hb1
      exact lv_istore hx hb hd hl hn rfl (fun ls hl => k p la e s m args below meth c G ad0 A X H locs ad ls had (gput1_has hl) hP hD hS)
  · cases hr
theorem gs_istore_n {n : Fin 4} (hd : decode K.2.2.1 pc = .ok (.istore_n n, 1)) (hr : gstI K.2.2.2.1 l n.val (pc + 1) st h = some (pc', l', st', h', P)) (hp : gpr P) (k : gW K sc R n0 E cs ss pc' l' st' h') : gW K sc R n0 E cs ss pc l st h := by
  unfold gstI at hr
  split at hr
  · rename_i x r
    cases hb1 : Nat.blt n.val K.2.2.2.1 with
    | false => rw [hb1] at hr; cases hr
    | true =>
      rw [hb1] at hr
      cases hr
      intro p la e s m args below meth c G ad0 A X H locs ad ls had hl hP hD hS
      obtain ⟨hx, hb, hml, hown, hts, hK, hamb, hA, -, hlk, -, hmn, -⟩ := id X
      have hn : n.val < K.2.2.2.1 := Nat.le_of_ble_eq_true hb1
      exact lv_istore_n hx hb hd rfl hl hn rfl (fun ls hl => k p la e s m args below meth c G ad0 A X H locs ad ls had (gput1_has hl) hP hD hS)
  · cases hr
theorem gs_lload {n : Nat} (hd : decode K.2.2.1 pc = .ok (.lload n, 2)) (hr : gldJ l n (pc + 2) st h = some (pc', l', st', h', P)) (hp : gpr P) (k : gW K sc R n0 E cs ss pc' l' st' h') : gW K sc R n0 E cs ss pc l st h := by
  unfold gldJ at hr
  split at hr
  · rename_i x hq
    cases hr
    intro p la e s m args below meth c G ad0 A X H locs ad ls had hl hP hD hS
    obtain ⟨hx, hb, hml, hown, hts, hK, hamb, hA, -, hlk, -, hmn, -⟩ := id X
    exact lv_lload hx hb hd (gget_at hl hq) (k p la e s m args below meth c G ad0 A X H locs ad ls had hl hP hD hS)
  · cases hr
theorem gs_lload_n {n : Fin 4} (hd : decode K.2.2.1 pc = .ok (.lload_n n, 1)) (hr : gldJ l n.val (pc + 1) st h = some (pc', l', st', h', P)) (hp : gpr P) (k : gW K sc R n0 E cs ss pc' l' st' h') : gW K sc R n0 E cs ss pc l st h := by
  unfold gldJ at hr
  split at hr
  · rename_i x hq
    cases hr
    intro p la e s m args below meth c G ad0 A X H locs ad ls had hl hP hD hS
    obtain ⟨hx, hb, hml, hown, hts, hK, hamb, hA, -, hlk, -, hmn, -⟩ := id X
    exact lv_lload_n hx hb hd rfl (gget_at hl hq) (k p la e s m args below meth c G ad0 A X H locs ad ls had hl hP hD hS)
  · cases hr
theorem gs_lstore {n : Nat} (hd : decode K.2.2.1 pc = .ok (.lstore n, 2)) (hr : gstJ K.2.2.2.1 l n (pc + 2) st h = some (pc', l', st', h', P)) (hp : gpr P) (k : gW K sc R n0 E cs ss pc' l' st' h') : gW K sc R n0 E cs ss pc l st h := by
  unfold gstJ at hr
  split at hr
  · rename_i x r
    cases hb1 : Nat.blt (n + 1) K.2.2.2.1 with
    | false => rw [hb1] at hr; cases hr
    | true =>
      rw [hb1] at hr
      cases hr
      intro p la e s m args below meth c G ad0 A X H locs ad ls had hl hP hD hS
      obtain ⟨hx, hb, hml, hown, hts, hK, hamb, hA, -, hlk, -, hmn, -⟩ := id X
      have hn : n + 1 < K.2.2.2.1 := Nat.le_of_ble_eq_true hb1
      exact lv_lstore hx hb hd hl hn rfl (fun ls hl => k p la e s m args below meth c G ad0 A X H locs ad ls had (gput2_has hl) hP hD hS)
  · cases hr
theorem gs_lstore_n {n : Fin 4} (hd : decode K.2.2.1 pc = .ok (.lstore_n n, 1)) (hr : gstJ K.2.2.2.1 l n.val (pc + 1) st h = some (pc', l', st', h', P)) (hp : gpr P) (k : gW K sc R n0 E cs ss pc' l' st' h') : gW K sc R n0 E cs ss pc l st h := by
  unfold gstJ at hr
  split at hr
  · rename_i x r
    cases hb1 : Nat.blt (n.val + 1) K.2.2.2.1 with
    | false => rw [hb1] at hr; cases hr
    | true =>
      rw [hb1] at hr
      cases hr
      intro p la e s m args below meth c G ad0 A X H locs ad ls had hl hP hD hS
      obtain ⟨hx, hb, hml, hown, hts, hK, hamb, hA, -, hlk, -, hmn, -⟩ := id X
      have hn : n.val + 1 < K.2.2.2.1 := Nat.le_of_ble_eq_true hb1
      exact lv_lstore_n hx hb hd rfl hl hn rfl (fun ls hl => k p la e s m args below meth c G ad0 A X H locs ad ls had (gput2_has hl) hP hD hS)
  · cases hr
theorem gs_dload {n : Nat} (hd : decode K.2.2.1 pc = .ok (.dload n, 2)) (hr : gldD l n (pc + 2) st h = some (pc', l', st', h', P)) (hp : gpr P) (k : gW K sc R n0 E cs ss pc' l' st' h') : gW K sc R n0 E cs ss pc l st h := by
  unfold gldD at hr
  split at hr
  · rename_i x hq
    cases hr
    intro p la e s m args below meth c G ad0 A X H locs ad ls had hl hP hD hS
    obtain ⟨hx, hb, hml, hown, hts, hK, hamb, hA, -, hlk, -, hmn, -⟩ := id X
    exact lv_dload hx hb hd (gget_at hl hq) (k p la e s m args below meth c G ad0 A X H locs ad ls had hl hP hD hS)
  · cases hr
theorem gs_dload_n {n : Fin 4} (hd : decode K.2.2.1 pc = .ok (.dload_n n, 1)) (hr : gldD l n.val (pc + 1) st h = some (pc', l', st', h', P)) (hp : gpr P) (k : gW K sc R n0 E cs ss pc' l' st' h') : gW K sc R n0 E cs ss pc l st h := by
  unfold gldD at hr
  split at hr
  · rename_i x hq
    cases hr
    intro p la e s m args below meth c G ad0 A X H locs ad ls had hl hP hD hS
    obtain ⟨hx, hb, hml, hown, hts, hK, hamb, hA, -, hlk, -, hmn, -⟩ := id X
    exact lv_dload_n hx hb hd rfl (gget_at hl hq) (k p la e s m args below meth c G ad0 A X H locs ad ls had hl hP hD hS)
  · cases hr
theorem gs_dstore {n : Nat} (hd : decode K.2.2.1 pc = .ok (.dstore n, 2)) (hr : gstD K.2.2.2.1 l n (pc + 2) st h = some (pc', l', st', h', P)) (hp : gpr P) (k : gW K sc R n0 E cs ss pc' l' st' h') : gW K sc R n0 E cs ss pc l st h := by
  unfold gstD at hr
  split at hr
  · rename_i x r
    cases hb1 : Nat.blt (n + 1) K.2.2.2.1 with
    | false => rw [hb1] at hr; cases hr
    | true =>
      rw [hb1] at hr
      cases hr
      intro p la e s m args below meth c G ad0 A X H locs ad ls had hl hP hD hS
      obtain ⟨hx, hb, hml, hown, hts, hK, hamb, hA, -, hlk, -, hmn, -⟩ := id X
      have hn : n + 1 < K.2.2.2.1 := Nat.le_of_ble_eq_true hb1
      exact lv_dstore hx hb hd hl hn rfl (fun ls hl => k p la e s m args below meth c G ad0 A X H locs ad ls had (gput2_has hl) hP hD hS)
  · cases hr
theorem gs_dstore_n {n : Fin 4} (hd : decode K.2.2.1 pc = .ok (.dstore_n n, 1)) (hr : gstD K.2.2.2.1 l n.val (pc + 1) st h = some (pc', l', st', h', P)) (hp : gpr P) (k : gW K sc R n0 E cs ss pc' l' st' h') : gW K sc R n0 E cs ss pc l st h := by
  unfold gstD at hr
  split at hr
  · rename_i x r
    cases hb1 : Nat.blt (n.val + 1) K.2.2.2.1 with
    | false => rw [hb1] at hr; cases hr
    | true =>
      rw [hb1] at hr
      cases hr
      intro p la e s m args below meth c G ad0 A X H locs ad ls had hl hP hD hS
      obtain ⟨hx, hb, hml, hown, hts, hK, hamb, hA, -, hlk, -, hmn, -⟩ := id X
      have hn : n.val + 1 < K.2.2.2.1 := Nat.le_of_ble_eq_true hb1
      exact lv_dstore_n hx hb hd rfl hl hn rfl (fun ls hl => k p la e s m args below meth c G ad0 A X H locs ad ls had (gput2_has hl) hP hD hS)
  · cases hr
theorem gs_aload {n : Nat} (hd : decode K.2.2.1 pc = .ok (.aload n, 2)) (hr : gldA l n (pc + 2) st h = some (pc', l', st', h', P)) (hp : gpr P) (k : gW K sc R n0 E cs ss pc' l' st' h') : gW K sc R n0 E cs ss pc l st h := by
  unfold gldA at hr
  split at hr
  · rename_i x hq
    cases hr
    intro p la e s m args below meth c G ad0 A X H locs ad ls had hl hP hD hS
    obtain ⟨hx, hb, hml, hown, hts, hK, hamb, hA, -, hlk, -, hmn, -⟩ := id X
    exact lv_aload hx hb hd (gget_at hl hq) (k p la e s m args below meth c G ad0 A X H locs ad ls had hl hP hD hS)
  · cases hr
theorem gs_aload_n {n : Fin 4} (hd : decode K.2.2.1 pc = .ok (.aload_n n, 1)) (hr : gldA l n.val (pc + 1) st h = some (pc', l', st', h', P)) (hp : gpr P) (k : gW K sc R n0 E cs ss pc' l' st' h') : gW K sc R n0 E cs ss pc l st h := by
  unfold gldA at hr
  split at hr
  · rename_i x hq
    cases hr
    intro p la e s m args below meth c G ad0 A X H locs ad ls had hl hP hD hS
    obtain ⟨hx, hb, hml, hown, hts, hK, hamb, hA, -, hlk, -, hmn, -⟩ := id X
    exact lv_aload_n hx hb hd rfl (gget_at hl hq) (k p la e s m args below meth c G ad0 A X H locs ad ls had hl hP hD hS)
  · cases hr
theorem gs_astore {n : Nat} (hd : decode K.2.2.1 pc = .ok (.astore n, 2)) (hr : gstA K.2.2.2.1 l n (pc + 2) st h = some (pc', l', st', h', P)) (hp : gpr P) (k : gW K sc R n0 E cs ss pc' l' st' h') : gW K sc R n0 E cs ss pc l st h := by
  unfold gstA at hr
  split at hr
  · rename_i x r
    cases hb1 : Nat.blt n K.2.2.2.1 with
    | false => rw [hb1] at hr; cases hr
    | true =>
      rw [hb1] at hr
      cases hr
      intro p la e s m args below meth c G ad0 A X H locs ad ls had hl hP hD hS
      obtain ⟨hx, hb, hml, hown, hts, hK, hamb, hA, -, hlk, -, hmn, -⟩ := id X
      have hn : n < K.2.2.2.1 := Nat.le_of_ble_eq_true hb1
      exact lv_astore hx hb hd hl hn rfl (fun ls hl => k p la e s m args below meth c G ad0 A X H locs ad ls had (gput1_has hl) hP hD hS)
  · cases hr
theorem gs_astore_n {n : Fin 4} (hd : decode K.2.2.1 pc = .ok (.astore_n n, 1)) (hr : gstA K.2.2.2.1 l n.val (pc + 1) st h = some (pc', l', st', h', P)) (hp : gpr P) (k : gW K sc R n0 E cs ss pc' l' st' h') : gW K sc R n0 E cs ss pc l st h := by
  unfold gstA at hr
  split at hr
  · rename_i x r
    cases hb1 : Nat.blt n.val K.2.2.2.1 with
    | false => rw [hb1] at hr; cases hr
    | true =>
      rw [hb1] at hr
      cases hr
      intro p la e s m args below meth c G ad0 A X H locs ad ls had hl hP hD hS
      obtain ⟨hx, hb, hml, hown, hts, hK, hamb, hA, -, hlk, -, hmn, -⟩ := id X
      have hn : n.val < K.2.2.2.1 := Nat.le_of_ble_eq_true hb1
      exact lv_astore_n hx hb hd rfl hl hn rfl (fun ls hl => k p la e s m args below meth c G ad0 A X H locs ad ls had (gput1_has hl) hP hD hS)
  · cases hr
theorem gs_iinc {n : Nat} {d : Int} (hd : decode K.2.2.1 pc = .ok (.iinc n d, 3)) (hr : (match gget l n with
    | some (.int x) => cond (Nat.blt n K.2.2.2.1) (some (pc + 3, gput1 l n (.int (x + Int32.ofInt d)), st, h, none)) none
    | _ => none : Option gSt) = some (pc', l', st', h', P)) (hp : gpr P) (k : gW K sc R n0 E cs ss pc' l' st' h') : gW K sc R n0 E cs ss pc l st h := by
  split at hr
  · rename_i x hq
    cases hb1 : Nat.blt n K.2.2.2.1 with
    | false => rw [hb1] at hr; cases hr
    | true =>
      rw [hb1] at hr
      cases hr
      intro p la e s m args below meth c G ad0 A X H locs ad ls had hl hP hD hS
      obtain ⟨hx, hb, hml, hown, hts, hK, hamb, hA, -, hlk, -, hmn, -⟩ := id X
      have hn : n < K.2.2.2.1 := Nat.le_of_ble_eq_true hb1
      obtain ⟨j, hj⟩ := List.getElem?_of_mem (gml_mem (ad := ad) (gget_mem hq))
      exact lv_iinc hx hb hd hl hj rfl hn rfl (fun ls hl => k p la e s m args below meth c G ad0 A X H locs ad ls had (gput1_has hl) hP hD hS)
  · cases hr
theorem gs_pop  (hd : decode K.2.2.1 pc = .ok (.pop, 1)) (hr : (match st with
    | v :: r => cond (Nat.beq v.category 1) (some (pc + 1, l, r, h, none)) none
    | _ => none : Option gSt) = some (pc', l', st', h', P)) (hp : gpr P) (k : gW K sc R n0 E cs ss pc' l' st' h') : gW K sc R n0 E cs ss pc l st h := by
  split at hr
  · rename_i v r
    cases hb1 : Nat.beq v.category 1 with
    | false => rw [hb1] at hr; cases hr
    | true =>
      rw [hb1] at hr
      cases hr
      intro p la e s m args below meth c G ad0 A X H locs ad ls had hl hP hD hS
      obtain ⟨hx, hb, hml, hown, hts, hK, hamb, hA, -, hlk, -, hmn, -⟩ := id X
      exact lv_pop hx hb hd (by rw [gmv_cat]; exact Nat.eq_of_beq_eq_true hb1) (k p la e s m args below meth c G ad0 A X H locs ad ls had hl hP hD hS)
  · cases hr
theorem gs_dup  (hd : decode K.2.2.1 pc = .ok (.dup, 1)) (hr : (match st with
    | v :: r => cond (Nat.beq v.category 1) (some (pc + 1, l, v :: v :: r, h, none)) none
    | _ => none : Option gSt) = some (pc', l', st', h', P)) (hp : gpr P) (k : gW K sc R n0 E cs ss pc' l' st' h') : gW K sc R n0 E cs ss pc l st h := by
  split at hr
  · rename_i v r
    cases hb1 : Nat.beq v.category 1 with
    | false => rw [hb1] at hr; cases hr
    | true =>
      rw [hb1] at hr
      cases hr
      intro p la e s m args below meth c G ad0 A X H locs ad ls had hl hP hD hS
      obtain ⟨hx, hb, hml, hown, hts, hK, hamb, hA, -, hlk, -, hmn, -⟩ := id X
      exact lv_dup hx hb hd (by rw [gmv_cat]; exact Nat.eq_of_beq_eq_true hb1) (k p la e s m args below meth c G ad0 A X H locs ad ls had hl hP hD hS)
  · cases hr
theorem gs_dup2  (hd : decode K.2.2.1 pc = .ok (.dup2, 1)) (hr : (match st with
    | v :: w :: r => cond (Nat.beq v.category 1 && Nat.beq w.category 1) (some (pc + 1, l, v :: w :: v :: w :: r, h, none)) none
    | _ => none : Option gSt) = some (pc', l', st', h', P)) (hp : gpr P) (k : gW K sc R n0 E cs ss pc' l' st' h') : gW K sc R n0 E cs ss pc l st h := by
  split at hr
  · rename_i v w r
    cases hb1 : (Nat.beq v.category 1 && Nat.beq w.category 1) with
    | false => rw [hb1] at hr; cases hr
    | true =>
      rw [hb1] at hr
      cases hr
      simp only [Bool.and_eq_true] at hb1
      intro p la e s m args below meth c G ad0 A X H locs ad ls had hl hP hD hS
      obtain ⟨hx, hb, hml, hown, hts, hK, hamb, hA, -, hlk, -, hmn, -⟩ := id X
      exact lv_dup2_11 hx hb hd (by rw [gmv_cat]; exact Nat.eq_of_beq_eq_true hb1.1) (by rw [gmv_cat]; exact Nat.eq_of_beq_eq_true hb1.2) (k p la e s m args below meth c G ad0 A X H locs ad ls had hl hP hD hS)
  · cases hr
theorem gs_iadd  (hd : decode K.2.2.1 pc = .ok (.iadd, 1)) (hr : gi2 (fun x y => x + y) (pc + 1) l st h = some (pc', l', st', h', P)) (hp : gpr P) (k : gW K sc R n0 E cs ss pc' l' st' h') : gW K sc R n0 E cs ss pc l st h := by
  unfold gi2 at hr
  split at hr
  · rename_i y x r
    cases hr
    intro p la e s m args below meth c G ad0 A X H locs ad ls had hl hP hD hS
    obtain ⟨hx, hb, hml, hown, hts, hK, hamb, hA, -, hlk, -, hmn, -⟩ := id X
    exact lv_iadd hx hb hd (k p la e s m args below meth c G ad0 A X H locs ad ls had hl hP hD hS)
  · cases hr
theorem gs_isub  (hd : decode K.2.2.1 pc = .ok (.isub, 1)) (hr : gi2 (fun x y => x - y) (pc + 1) l st h = some (pc', l', st', h', P)) (hp : gpr P) (k : gW K sc R n0 E cs ss pc' l' st' h') : gW K sc R n0 E cs ss pc l st h := by
  unfold gi2 at hr
  split at hr
  · rename_i y x r
    cases hr
    intro p la e s m args below meth c G ad0 A X H locs ad ls had hl hP hD hS
    obtain ⟨hx, hb, hml, hown, hts, hK, hamb, hA, -, hlk, -, hmn, -⟩ := id X
    exact lv_isub hx hb hd (k p la e s m args below meth c G ad0 A X H locs ad ls had hl hP hD hS)
  · cases hr
theorem gs_imul  (hd : decode K.2.2.1 pc = .ok (.imul, 1)) (hr : gi2 (fun x y => x * y) (pc + 1) l st h = some (pc', l', st', h', P)) (hp : gpr P) (k : gW K sc R n0 E cs ss pc' l' st' h') : gW K sc R n0 E cs ss pc l st h := by
  unfold gi2 at hr
  split at hr
  · rename_i y x r
    cases hr
    intro p la e s m args below meth c G ad0 A X H locs ad ls had hl hP hD hS
    obtain ⟨hx, hb, hml, hown, hts, hK, hamb, hA, -, hlk, -, hmn, -⟩ := id X
    exact lv_imul hx hb hd (k p la e s m args below meth c G ad0 A X H locs ad ls had hl hP hD hS)
  · cases hr
theorem gs_iand  (hd : decode K.2.2.1 pc = .ok (.iand, 1)) (hr : gi2 (fun x y => x &&& y) (pc + 1) l st h = some (pc', l', st', h', P)) (hp : gpr P) (k : gW K sc R n0 E cs ss pc' l' st' h') : gW K sc R n0 E cs ss pc l st h := by
  unfold gi2 at hr
  split at hr
  · rename_i y x r
    cases hr
    intro p la e s m args below meth c G ad0 A X H locs ad ls had hl hP hD hS
    obtain ⟨hx, hb, hml, hown, hts, hK, hamb, hA, -, hlk, -, hmn, -⟩ := id X
    exact lv_iand hx hb hd (k p la e s m args below meth c G ad0 A X H locs ad ls had hl hP hD hS)
  · cases hr
theorem gs_ladd  (hd : decode K.2.2.1 pc = .ok (.ladd, 1)) (hr : gl2 (fun x y => x + y) (pc + 1) l st h = some (pc', l', st', h', P)) (hp : gpr P) (k : gW K sc R n0 E cs ss pc' l' st' h') : gW K sc R n0 E cs ss pc l st h := by
  unfold gl2 at hr
  split at hr
  · rename_i y x r
    cases hr
    intro p la e s m args below meth c G ad0 A X H locs ad ls had hl hP hD hS
    obtain ⟨hx, hb, hml, hown, hts, hK, hamb, hA, -, hlk, -, hmn, -⟩ := id X
    exact lv_ladd hx hb hd (k p la e s m args below meth c G ad0 A X H locs ad ls had hl hP hD hS)
  · cases hr
theorem gs_lsub  (hd : decode K.2.2.1 pc = .ok (.lsub, 1)) (hr : gl2 (fun x y => x - y) (pc + 1) l st h = some (pc', l', st', h', P)) (hp : gpr P) (k : gW K sc R n0 E cs ss pc' l' st' h') : gW K sc R n0 E cs ss pc l st h := by
  unfold gl2 at hr
  split at hr
  · rename_i y x r
    cases hr
    intro p la e s m args below meth c G ad0 A X H locs ad ls had hl hP hD hS
    obtain ⟨hx, hb, hml, hown, hts, hK, hamb, hA, -, hlk, -, hmn, -⟩ := id X
    exact lv_lsub hx hb hd (k p la e s m args below meth c G ad0 A X H locs ad ls had hl hP hD hS)
  · cases hr
theorem gs_lmul  (hd : decode K.2.2.1 pc = .ok (.lmul, 1)) (hr : gl2 (fun x y => x * y) (pc + 1) l st h = some (pc', l', st', h', P)) (hp : gpr P) (k : gW K sc R n0 E cs ss pc' l' st' h') : gW K sc R n0 E cs ss pc l st h := by
  unfold gl2 at hr
  split at hr
  · rename_i y x r
    cases hr
    intro p la e s m args below meth c G ad0 A X H locs ad ls had hl hP hD hS
    obtain ⟨hx, hb, hml, hown, hts, hK, hamb, hA, -, hlk, -, hmn, -⟩ := id X
    exact lv_lmul hx hb hd (k p la e s m args below meth c G ad0 A X H locs ad ls had hl hP hD hS)
  · cases hr
theorem gs_dmul  (hd : decode K.2.2.1 pc = .ok (.dmul, 1)) (hr : gd2 FP.dmul (pc + 1) l st h = some (pc', l', st', h', P)) (hp : gpr P) (k : gW K sc R n0 E cs ss pc' l' st' h') : gW K sc R n0 E cs ss pc l st h := by
  unfold gd2 at hr
  split at hr
  · rename_i y x r
    cases hr
    intro p la e s m args below meth c G ad0 A X H locs ad ls had hl hP hD hS
    obtain ⟨hx, hb, hml, hown, hts, hK, hamb, hA, -, hlk, -, hmn, -⟩ := id X
    exact lv_dmul hx hb hd hp (k p la e s m args below meth c G ad0 A X H locs ad ls had hl hP hD hS)
  · cases hr
theorem gs_dsub  (hd : decode K.2.2.1 pc = .ok (.dsub, 1)) (hr : gd2 FP.dsub (pc + 1) l st h = some (pc', l', st', h', P)) (hp : gpr P) (k : gW K sc R n0 E cs ss pc' l' st' h') : gW K sc R n0 E cs ss pc l st h := by
  unfold gd2 at hr
  split at hr
  · rename_i y x r
    cases hr
    intro p la e s m args below meth c G ad0 A X H locs ad ls had hl hP hD hS
    obtain ⟨hx, hb, hml, hown, hts, hK, hamb, hA, -, hlk, -, hmn, -⟩ := id X
    exact lv_dsub hx hb hd hp (k p la e s m args below meth c G ad0 A X H locs ad ls had hl hP hD hS)
  · cases hr
theorem gs_ddiv  (hd : decode K.2.2.1 pc = .ok (.ddiv, 1)) (hr : gd2 FP.ddiv (pc + 1) l st h = some (pc', l', st', h', P)) (hp : gpr P) (k : gW K sc R n0 E cs ss pc' l' st' h') : gW K sc R n0 E cs ss pc l st h := by
  unfold gd2 at hr
  split at hr
  · rename_i y x r
    cases hr
    intro p la e s m args below meth c G ad0 A X H locs ad ls had hl hP hD hS
    obtain ⟨hx, hb, hml, hown, hts, hK, hamb, hA, -, hlk, -, hmn, -⟩ := id X
    exact lv_ddiv hx hb hd hp (k p la e s m args below meth c G ad0 A X H locs ad ls had hl hP hD hS)
  · cases hr
theorem gs_idiv  (hd : decode K.2.2.1 pc = .ok (.idiv, 1)) (hr : (match st with
    | .int y :: .int x :: r => some (pc + 1, l, .int (x / y) :: r, h, some (¬ y = 0))
    | _ => none : Option gSt) = some (pc', l', st', h', P)) (hp : gpr P) (k : gW K sc R n0 E cs ss pc' l' st' h') : gW K sc R n0 E cs ss pc l st h := by
  split at hr
  · rename_i y x r
    cases hr
    intro p la e s m args below meth c G ad0 A X H locs ad ls had hl hP hD hS
    obtain ⟨hx, hb, hml, hown, hts, hK, hamb, hA, -, hlk, -, hmn, -⟩ := id X
    exact lv_idiv hx hb hd hp (k p la e s m args below meth c G ad0 A X H locs ad ls had hl hP hD hS)
  · cases hr
theorem gs_irem  (hd : decode K.2.2.1 pc = .ok (.irem, 1)) (hr : (match st with
    | .int y :: .int x :: r => some (pc + 1, l, .int (x - x / y * y) :: r, h, some (¬ y = 0))
    | _ => none : Option gSt) = some (pc', l', st', h', P)) (hp : gpr P) (k : gW K sc R n0 E cs ss pc' l' st' h') : gW K sc R n0 E cs ss pc l st h := by
  split at hr
  · rename_i y x r
    cases hr
    intro p la e s m args below meth c G ad0 A X H locs ad ls had hl hP hD hS
    obtain ⟨hx, hb, hml, hown, hts, hK, hamb, hA, -, hlk, -, hmn, -⟩ := id X
    exact lv_irem hx hb hd hp (k p la e s m args below meth c G ad0 A X H locs ad ls had hl hP hD hS)
  · cases hr
theorem gs_ishr  (hd : decode K.2.2.1 pc = .ok (.ishr, 1)) (hr : gi2 (fun x y => x >>> (y &&& 31)) (pc + 1) l st h = some (pc', l', st', h', P)) (hp : gpr P) (k : gW K sc R n0 E cs ss pc' l' st' h') : gW K sc R n0 E cs ss pc l st h := by
  unfold gi2 at hr
  split at hr
  · rename_i y x r
    cases hr
    intro p la e s m args below meth c G ad0 A X H locs ad ls had hl hP hD hS
    obtain ⟨hx, hb, hml, hown, hts, hK, hamb, hA, -, hlk, -, hmn, -⟩ := id X
    exact lv_ishr hx hb hd (k p la e s m args below meth c G ad0 A X H locs ad ls had hl hP hD hS)
  · cases hr
theorem gs_ldc {n : Nat} (hd : decode K.2.2.1 pc = .ok (.ldc n, 2)) (hr : (match gIc K.1 n with
    | some x => some (pc + 2, l, .int x :: st, h, none)
    | none => none : Option gSt) = some (pc', l', st', h', P)) (hp : gpr P) (k : gW K sc R n0 E cs ss pc' l' st' h') : gW K sc R n0 E cs ss pc l st h := by
  split at hr
  · rename_i x hq
    cases hr
    intro p la e s m args below meth c G ad0 A X H locs ad ls had hl hP hD hS
    obtain ⟨hx, hb, hml, hown, hts, hK, hamb, hA, -, hlk, -, hmn, -⟩ := id X
    exact lv_ldc hx hb hown (hts _ (gIc_ok hq)) hd (k p la e s m args below meth c G ad0 A X H locs ad ls had hl hP hD hS)
  · cases hr
theorem gs_ineg  (hd : decode K.2.2.1 pc = .ok (.ineg, 1)) (hr : (match st with
    | .int x :: r => some (pc + 1, l, .int (-x) :: r, h, none)
    | _ => none : Option gSt) = some (pc', l', st', h', P)) (hp : gpr P) (k : gW K sc R n0 E cs ss pc' l' st' h') : gW K sc R n0 E cs ss pc l st h := by
  split at hr
  · rename_i x r
    cases hr
    intro p la e s m args below meth c G ad0 A X H locs ad ls had hl hP hD hS
    obtain ⟨hx, hb, hml, hown, hts, hK, hamb, hA, -, hlk, -, hmn, -⟩ := id X
    exact lv_ineg hx hb hd (k p la e s m args below meth c G ad0 A X H locs ad ls had hl hP hD hS)
  · cases hr
theorem gs_lshl  (hd : decode K.2.2.1 pc = .ok (.lshl, 1)) (hr : (match st with
    | .int y :: .long x :: r => some (pc + 1, l, .long (x <<< (y.toInt64 &&& 63)) :: r, h, none)
    | _ => none : Option gSt) = some (pc', l', st', h', P)) (hp : gpr P) (k : gW K sc R n0 E cs ss pc' l' st' h') : gW K sc R n0 E cs ss pc l st h := by
  split at hr
  · rename_i y x r
    cases hr
    intro p la e s m args below meth c G ad0 A X H locs ad ls had hl hP hD hS
    obtain ⟨hx, hb, hml, hown, hts, hK, hamb, hA, -, hlk, -, hmn, -⟩ := id X
    exact lv_lshl hx hb hd rfl (k p la e s m args below meth c G ad0 A X H locs ad ls had hl hP hD hS)
  · cases hr
theorem gs_lcmp  (hd : decode K.2.2.1 pc = .ok (.lcmp, 1)) (hr : (match st with
    | .long y :: .long x :: r => some (pc + 1, l, .int (lg_cmp x y) :: r, h, none)
    | _ => none : Option gSt) = some (pc', l', st', h', P)) (hp : gpr P) (k : gW K sc R n0 E cs ss pc' l' st' h') : gW K sc R n0 E cs ss pc l st h := by
  split at hr
  · rename_i y x r
    cases hr
    intro p la e s m args below meth c G ad0 A X H locs ad ls had hl hP hD hS
    obtain ⟨hx, hb, hml, hown, hts, hK, hamb, hA, -, hlk, -, hmn, -⟩ := id X
    exact W.lcmp hx hb hd (k p la e s m args below meth c G ad0 A X H locs ad ls had hl hP hD hS)
  · cases hr
theorem gs_i2l  (hd : decode K.2.2.1 pc = .ok (.i2l, 1)) (hr : (match st with
    | .int x :: r => some (pc + 1, l, .long x.toInt64 :: r, h, none)
    | _ => none : Option gSt) = some (pc', l', st', h', P)) (hp : gpr P) (k : gW K sc R n0 E cs ss pc' l' st' h') : gW K sc R n0 E cs ss pc l st h := by
  split at hr
  · rename_i x r
    cases hr
    intro p la e s m args below meth c G ad0 A X H locs ad ls had hl hP hD hS
    obtain ⟨hx, hb, hml, hown, hts, hK, hamb, hA, -, hlk, -, hmn, -⟩ := id X
    exact lv_i2l hx hb hd rfl (k p la e s m args below meth c G ad0 A X H locs ad ls had hl hP hD hS)
  · cases hr
theorem gs_i2d  (hd : decode K.2.2.1 pc = .ok (.i2d, 1)) (hr : (match st with
    | .int x :: r => some (pc + 1, l, .double (FP.i2d x) :: r, h, none)
    | _ => none : Option gSt) = some (pc', l', st', h', P)) (hp : gpr P) (k : gW K sc R n0 E cs ss pc' l' st' h') : gW K sc R n0 E cs ss pc l st h := by
  split at hr
  · rename_i x r
    cases hr
    intro p la e s m args below meth c G ad0 A X H locs ad ls had hl hP hD hS
    obtain ⟨hx, hb, hml, hown, hts, hK, hamb, hA, -, hlk, -, hmn, -⟩ := id X
    exact lv_i2d hx hb hd (k p la e s m args below meth c G ad0 A X H locs ad ls had hl hP hD hS)
  · cases hr
theorem gs_d2l  (hd : decode K.2.2.1 pc = .ok (.d2l, 1)) (hr : (match st with
    | .double x :: r => some (pc + 1, l, .long (FP.d2l x) :: r, h, none)
    | _ => none : Option gSt) = some (pc', l', st', h', P)) (hp : gpr P) (k : gW K sc R n0 E cs ss pc' l' st' h') : gW K sc R n0 E cs ss pc l st h := by
  split at hr
  · rename_i x r
    cases hr
    intro p la e s m args below meth c G ad0 A X H locs ad ls had hl hP hD hS
    obtain ⟨hx, hb, hml, hown, hts, hK, hamb, hA, -, hlk, -, hmn, -⟩ := id X
    exact lv_d2l hx hb hd (k p la e s m args below meth c G ad0 A X H locs ad ls had hl hP hD hS)
  · cases hr
theorem gs_dcmp {op : CmpOp} (hd : decode K.2.2.1 pc = .ok (.dcmp op, 1)) (hr : (match st with
    | .double y :: .double x :: r => some (pc + 1, l, .int (Op.cmpValue (FP.dcmp x y) op) :: r, h, none)
    | _ => none : Option gSt) = some (pc', l', st', h', P)) (hp : gpr P) (k : gW K sc R n0 E cs ss pc' l' st' h') : gW K sc R n0 E cs ss pc l st h := by
  split at hr
  · rename_i y x r
    cases hr
    intro p la e s m args below meth c G ad0 A X H locs ad ls had hl hP hD hS
    obtain ⟨hx, hb, hml, hown, hts, hK, hamb, hA, -, hlk, -, hmn, -⟩ := id X
    exact lv_dcmp hx hb hd (k p la e s m args below meth c G ad0 A X H locs ad ls had hl hP hD hS)
  · cases hr
theorem gs_goto {d : Int} (hd : decode K.2.2.1 pc = .ok (.goto d, 3)) (hr : (match (pc : Int) + d with
    | .ofNat t => some (t, l, st, h, none)
    | _ => none : Option gSt) = some (pc', l', st', h', P)) (hp : gpr P) (k : gW K sc R n0 E cs ss pc' l' st' h') : gW K sc R n0 E cs ss pc l st h := by
  split at hr
  · rename_i t ht
    cases hr
    intro p la e s m args below meth c G ad0 A X H locs ad ls had hl hP hD hS
    obtain ⟨hx, hb, hml, hown, hts, hK, hamb, hA, -, hlk, -, hmn, -⟩ := id X
    exact lv_goto hx hb hd ht (k p la e s m args below meth c G ad0 A X H locs ad ls had hl hP hD hS)
  · cases hr
theorem gSs_ok {o i j : Nat} (h : gSs o i = some j) : (Cond.fieldLink (gown o) i "GoldSheets" (gsn j) "[I" ∈ gTs ∨ Cond.fieldLinkNest (gown o) i "GoldSheets" (gsn j) "[I" "GoldSheets" ∈ gNs) ∧ 1 ≤ j ∧ j < 4 := by
  unfold gSs at h
  split at h
  · cases h; exact ⟨Or.inr (gmemN 71 (by decide +kernel)), by decide, by decide⟩
  · cases h; exact ⟨Or.inl (gmem 453 (by decide +kernel)), by decide, by decide⟩
  · cases h; exact ⟨Or.inl (gmem 455 (by decide +kernel)), by decide, by decide⟩
  · cases h
theorem gs_getstatic {n : Nat} (hd : decode K.2.2.1 pc = .ok (.getstatic n, 3)) (hr : (match gSs K.1 n with
    | some j => some (pc + 3, l, .ref (1000 + j) :: st, h, none)
    | none => none : Option gSt) = some (pc', l', st', h', P)) (hp : gpr P) (k : gW K sc R n0 E cs ss pc' l' st' h') : gW K sc R n0 E cs ss pc l st h := by
  split at hr
  · rename_i j hq
    cases hr
    intro p la e s m args below meth c G ad0 A X H locs ad ls had hl hP hD hS
    obtain ⟨hx, hb, hml, hown, hts, hK, hamb, hA, -, hlk, -, hmn, -⟩ := id X
    obtain ⟨hlink, h1, h2⟩ := gSs_ok hq
    have hZ := hamb.2.2.1 j h1 h2
    have hj : ad (1000 + j) = ad0 (1000 + j) := had _ (Or.inr (Nat.le_add_right _ _))
    rw [← hj] at hZ
    rcases hlink with hlink | hlink
    · exact va_gets hx hb hZ hS hown (hts _ hlink) (fun _ h => h) hd (k p la e s m args below meth c G ad0 A X H locs ad ls had hl hP hD hS)
    · exact va_getsN hx hb hZ hS hown (gNs_use hamb.2.2.2.2 _ hlink) (fun _ h => h) hd (k p la e s m args below meth c G ad0 A X H locs ad ls had hl hP hD hS)
  · cases hr
theorem gs_getfield {n : Nat} (hd : decode K.2.2.1 pc = .ok (.getfield n, 3)) (hr : ggf K.1 n (pc + 3) l st h = some (pc', l', st', h', P)) (hp : gpr P) (k : gW K sc R n0 E cs ss pc' l' st' h') : gW K sc R n0 E cs ss pc l st h := by
  unfold ggf at hr
  split at hr
  · rename_i a r
    split at hr
    · rename_i ci k0 hq
      split at hr
      · rename_i cj fs ho
        cases hb1 : Nat.beq ci cj with
        | false => rw [hb1] at hr; cases hr
        | true =>
          have hcj : ci = cj := Nat.eq_of_beq_eq_true hb1
          subst hcj
          rw [hb1] at hr
          dsimp only [cond] at hr
          split at hr
          · rename_i v hv
            cases hr
            intro p la e s m args below meth c G ad0 A X H locs ad ls had hl hP hD hS
            obtain ⟨hx, hb, hml, hown, hts, hK, hamb, hA, -⟩ := id X
            obtain ⟨hlink, hc7, hkN, hdecl⟩ := gF_ok hq
            have hv2 : (fs.map (gmv ad))[k0]? = some (gmv ad v) := by rw [List.getElem?_map, hv]; rfl
            rcases hlink with hlink | ⟨-, hlink⟩
            · exact va_get hx hb hts (gin hc7) hown hK hP a (gmw_of ho) (gcl_at hc7) k0 hkN (hts _ hlink) (fun x hf => by rw [hdecl] at hf; exact hf) hv2 hd (k p la e s m args below meth c G ad0 A X H locs ad ls had hl hP hD hS)
            · exact va_getN hx hb hts (gin hc7) hown hK hP a (gmw_of ho) (gcl_at hc7) k0 hkN (gNs_use hamb.2.2.2.2 _ hlink) (fun x hf => by rw [hdecl] at hf; exact hf) hv2 hd (k p la e s m args below meth c G ad0 A X H locs ad ls had hl hP hD hS)
          · cases hr
      · cases hr
    · cases hr
  · cases hr
theorem gfit_ok {ad : Nat → Nat} {ty : FieldType} {v : Value} (h : gfit ty v = true) : narrow ty (gmv ad v) = gmv ad v ∧ fits ty (gmv ad v) = true := by
  unfold gfit at h
  split at h
  · exact ⟨rfl, rfl⟩
  · exact ⟨rfl, rfl⟩
  · exact ⟨rfl, rfl⟩
  · exact ⟨rfl, rfl⟩
  · cases h
theorem gs_putfield {n : Nat} (hd : decode K.2.2.1 pc = .ok (.putfield n, 3)) (hr : gpf K n (pc + 3) l st h = some (pc', l', st', h', P)) (hp : gpr P) (k : gW K sc R n0 E cs ss pc' l' st' h') : gW K sc R n0 E cs ss pc l st h := by
  unfold gpf at hr
  split at hr
  · rename_i v a r
    split at hr
    · rename_i ci k0 hq
      split at hr
      · rename_i cj fs ho
        cases hb1 : (Nat.beq ci cj && (gfit (gyt ci k0) v && Nat.blt k0 fs.length)) with
        | false => rw [hb1] at hr; cases hr
        | true =>
          rw [hb1] at hr
          simp only [Bool.and_eq_true] at hb1
          obtain ⟨hb1, hb2, hb3⟩ := hb1
          have hcj : ci = cj := Nat.eq_of_beq_eq_true hb1
          subst hcj
          dsimp only [cond] at hr
          obtain ⟨hlink, hc7, hkN, hdecl⟩ := gF_ok hq
          have hty := gty hc7 k0 hkN
          cases hfin : (gTt ci k0).2.2.2 with
          | true =>
            rw [hfin] at hr
            cases hr
            intro p la e s m args below meth c G ad0 A X H locs ad ls had hl hP hD hS
            obtain ⟨hx, hb, hml, hown, hts, hK, hamb, hA, -, hlk, -, hmn, -⟩ := id X
            obtain ⟨hn1, hf1⟩ := gfit_ok (ad := ad) hb2
            have hset : ∀ j : Nat, (fs.map (gmv ad)).set j (gmv ad v) = (fs.set j v).map (gmv ad) := fun j => by rw [List.map_set]
            have hlink : Cond.fieldLink (gown K.1) n (gown ci) (gTt ci k0).2.1 (gTt ci k0).2.2.1 ∈ gTs := by
              rcases hlink with hlink | hlink
              · exact hlink
              · exact absurd hp.2 hlink.1
            refine va_putF hx hb hts (gin hc7) (gyt ci) (gty hc7) (gnm hc7) hown hK hP hD hS a (gmw_of ho) (gcl_at hc7) k0 hkN (hts _ hlink) (fun x hf => by rw [hdecl] at hf; exact hf) hfin (hmn.trans hp.1) (hdecl.trans (congrArg gown hp.2.symm)) hty hn1 hf1 (by rw [List.length_map]; exact Nat.le_of_ble_eq_true hb3) hd (fun H1 locs1 hP1 hD1 hS1 => ?_)
            rw [hset] at hP1 hD1
            exact k p la e s m args below meth c G ad0 A X H1 locs1 ad ls had hl (hP_set (e := cO ci (fs.set k0 v)) hP1) (hD_set (e := cO ci (fs.set k0 v)) hD1) hS1
          | false =>
            rw [hfin] at hr
            cases hr
            intro p la e s m args below meth c G ad0 A X H locs ad ls had hl hP hD hS
            obtain ⟨hx, hb, hml, hown, hts, hK, hamb, hA, -⟩ := id X
            obtain ⟨hn1, hf1⟩ := gfit_ok (ad := ad) hb2
            have hset : ∀ j : Nat, (fs.map (gmv ad)).set j (gmv ad v) = (fs.set j v).map (gmv ad) := fun j => by rw [List.map_set]
            rcases hlink with hlink | ⟨-, hlink⟩
            · refine va_put hx hb hts (gin hc7) (gyt ci) (gty hc7) (gnm hc7) hown hK hP hD hS a (gmw_of ho) (gcl_at hc7) k0 hkN (hts _ hlink) (fun x hf => by rw [hdecl] at hf; exact hf) hfin hty hn1 hf1 (by rw [List.length_map]; exact Nat.le_of_ble_eq_true hb3) hd (fun H1 locs1 hP1 hD1 hS1 => ?_)
              rw [hset] at hP1 hD1
              exact k p la e s m args below meth c G ad0 A X H1 locs1 ad ls had hl (hP_set (e := cO ci (fs.set k0 v)) hP1) (hD_set (e := cO ci (fs.set k0 v)) hD1) hS1
            · refine va_putN hx hb hts (gin hc7) (gyt ci) (gty hc7) (gnm hc7) hown hK hP hD hS a (gmw_of ho) (gcl_at hc7) k0 hkN (gNs_use hamb.2.2.2.2 _ hlink) (fun x hf => by rw [hdecl] at hf; exact hf) hfin hty hn1 hf1 (by rw [List.length_map]; exact Nat.le_of_ble_eq_true hb3) hd (fun H1 locs1 hP1 hD1 hS1 => ?_)
              rw [hset] at hP1 hD1
              exact k p la e s m args below meth c G ad0 A X H1 locs1 ad ls had hl (hP_set (e := cO ci (fs.set k0 v)) hP1) (hD_set (e := cO ci (fs.set k0 v)) hD1) hS1
      · cases hr
    · cases hr
  · cases hr
theorem gs_iaload  (hd : decode K.2.2.1 pc = .ok (.iaload, 1)) (hr : gal sc (pc + 1) l st h = some (pc', l', st', h', P)) (hp : gpr P) (k : gW K sc R n0 E cs ss pc' l' st' h') : gW K sc R n0 E cs ss pc l st h := by
  unfold gal at hr
  split at hr
  · rename_i i a r
    cases hb1 : Nat.ble 1000 a with
    | true =>
      rw [hb1] at hr
      dsimp only [cond] at hr
      cases hb2 : Nat.blt a 1004 with
      | false => rw [hb2] at hr; cases hr
      | true =>
        rw [hb2] at hr
        cases hr
        intro p la e s m args below meth c G ad0 A X H locs ad ls had hl hP hD hS
        obtain ⟨hx, hb, hml, hown, hts, hK, hamb, hA, -⟩ := id X
        obtain ⟨h1, h2, h3⟩ := gidx hb1 hb2
        have hT := hamb.2.1 (a - 1000) h2
        rw [h3, ← had a (Or.inr h1)] at hT
        exact va_ti hx hb hT hS hp rfl hd (k p la e s m args below meth c G ad0 A X H locs ad ls had hl hP hD hS)
    | false =>
      rw [hb1] at hr
      dsimp only [cond] at hr
      split at hr
      · rename_i n f ho
        cases hr
        intro p la e s m args below meth c G ad0 A X H locs ad ls had hl hP hD hS
        obtain ⟨hx, hb, hml, hown, hts, hK, hamb, hA, -⟩ := id X
        exact va_iald hx hb hK hP a 0 (gmw_of ho) rfl hp hd (k p la e s m args below meth c G ad0 A X H locs ad ls had hl hP hD hS)
      · cases hr
  · cases hr
theorem gmv_rf (ad : Nat → Nat) (o : Option Nat) : gmv ad (va_rf o) = va_rf (o.map ad) := by cases o <;> rfl
theorem gs_aaload  (hd : decode K.2.2.1 pc = .ok (.aaload, 1)) (hr : graal (pc + 1) l st h = some (pc', l', st', h', P)) (hp : gpr P) (k : gW K sc R n0 E cs ss pc' l' st' h') : gW K sc R n0 E cs ss pc l st h := by
  unfold graal at hr
  split at hr
  · rename_i i a r
    split at hr
    · rename_i xs ho
      cases hr
      intro p la e s m args below meth c G ad0 A X H locs ad ls had hl hP hD hS
      obtain ⟨hx, hb, hml, hown, hts, hK, hamb, hA, -, hlk, -, hmn, -⟩ := id X
      refine va_aldq hx hb hK hP a 2 (gmw_of ho) rfl hp hd ?_
      rw [← gmv_rf]
      exact k p la e s m args below meth c G ad0 A X H locs ad ls had hl hP hD hS
    · cases hr
  · cases hr
theorem gs_iastore  (hd : decode K.2.2.1 pc = .ok (.iastore, 1)) (hr : gas (pc + 1) l st h = some (pc', l', st', h', P)) (hp : gpr P) (k : gW K sc R n0 E cs ss pc' l' st' h') : gW K sc R n0 E cs ss pc l st h := by
  unfold gas at hr
  split at hr
  · rename_i x i a r
    split at hr
    · rename_i n f ho
      cases hr
      intro p la e s m args below meth c G ad0 A X H locs ad ls had hl hP hD hS
      obtain ⟨hx, hb, hml, hown, hts, hK, hamb, hA, -, hlk, -, hmn, -⟩ := id X
      exact va_iast hx hb hK hP hD hS a 0 (gmw_of ho) rfl hp hd (fun H1 locs1 hP1 hD1 hS1 => k p la e s m args below meth c G ad0 A X H1 locs1 ad ls had hl (hP_set (e := cI n (upd f i.toNatClampNeg x)) hP1) (hD_set (e := cI n (upd f i.toNatClampNeg x)) hD1) hS1)
    · cases hr
  · cases hr
theorem gin_lt {x : Int32} {n : Nat} (h : vp_in x n) : x.toNatClampNeg < n := Nat.not_le.mp fun q => h (Or.inr q)
theorem gs_aastore  (hd : decode K.2.2.1 pc = .ok (.aastore, 1)) (hr : graas (pc + 1) l st h = some (pc', l', st', h', P)) (hp : gpr P) (k : gW K sc R n0 E cs ss pc' l' st' h') : gW K sc R n0 E cs ss pc l st h := by
  unfold graas at hr
  split at hr
  · rename_i v i a r
    split at hr
    · rename_i xs vs ho hv
      cases hr
      intro p la e s m args below meth c G ad0 A X H locs ad ls had hl hP hD hS
      obtain ⟨hx, hb, hml, hown, hts, hK, hamb, hA, -, hlk, -, hmn, -⟩ := id X
      refine va_astq hx hb hK hP hD hS a 2 v 2 (gmw_of ho) rfl (gmw_of hv) (gcl_at (i := 2) (by decide)) hp hd (fun H1 locs1 hP1 hD1 hS1 => ?_)
      have hfun : va_up (fun j => (xs.getD j none).map ad) i.toNatClampNeg (some (ad v)) = fun j => ((xs.set i.toNatClampNeg (some v)).getD j none).map ad := by
        funext j
        have hlt := gin_lt hp
        unfold va_up
        by_cases hj : j = i.toNatClampNeg
        · subst hj
          simp [hlt]
        · rw [if_neg hj]
          show (xs.getD j none).map ad = ((xs.set i.toNatClampNeg (some v)).getD j none).map ad
          rw [List.getD_eq_getElem?_getD, List.getD_eq_getElem?_getD, List.getElem?_set_ne (Ne.symm hj)]
      have he : ((G.2.2.2, xs.length, Sum.inr (Sum.inr (Sum.inr (Sum.inr (va_up (fun j => (xs.getD j none).map ad) i.toNatClampNeg (some (ad v))))))) : ClassId × vp_A) = (G.2.2.2, (xs.set i.toNatClampNeg (some v)).length, Sum.inr (Sum.inr (Sum.inr (Sum.inr (fun j => ((xs.set i.toNatClampNeg (some v)).getD j none).map ad))))) := by
        rw [hfun, List.length_set]
      rw [he] at hP1 hD1
      exact k p la e s m args below meth c G ad0 A X H1 locs1 ad ls had hl (hP_set (e := cR (xs.set i.toNatClampNeg (some v))) hP1) (hD_set (e := cR (xs.set i.toNatClampNeg (some v))) hD1) hS1
    · cases hr
  · cases hr
theorem gs_arraylength  (hd : decode K.2.2.1 pc = .ok (.arraylength, 1)) (hr : galen sc (pc + 1) l st h = some (pc', l', st', h', P)) (hp : gpr P) (k : gW K sc R n0 E cs ss pc' l' st' h') : gW K sc R n0 E cs ss pc l st h := by
  unfold galen at hr
  split at hr
  · rename_i a r
    cases hb1 : Nat.ble 1000 a with
    | true =>
      rw [hb1] at hr
      dsimp only [cond] at hr
      cases hb2 : Nat.blt a 1004 with
      | false => rw [hb2] at hr; cases hr
      | true =>
        rw [hb2] at hr
        cases hr
        intro p la e s m args below meth c G ad0 A X H locs ad ls had hl hP hD hS
        obtain ⟨hx, hb, hml, hown, hts, hK, hamb, hA, -⟩ := id X
        obtain ⟨h1, h2, h3⟩ := gidx hb1 hb2
        have hT := hamb.2.1 (a - 1000) h2
        rw [h3, ← had a (Or.inr h1)] at hT
        exact va_tlen hx hb hT hS rfl hd (k p la e s m args below meth c G ad0 A X H locs ad ls had hl hP hD hS)
    | false =>
      rw [hb1] at hr
      dsimp only [cond] at hr
      split at hr
      · rename_i n f ho
        cases hr
        intro p la e s m args below meth c G ad0 A X H locs ad ls had hl hP hD hS
        obtain ⟨hx, hb, hml, hown, hts, hK, hamb, hA, -⟩ := id X
        exact va_alen hx hb hK hP a 0 (gmw_of ho) rfl rfl hd (k p la e s m args below meth c G ad0 A X H locs ad ls had hl hP hD hS)
      · rename_i n f ho
        cases hr
        intro p la e s m args below meth c G ad0 A X H locs ad ls had hl hP hD hS
        obtain ⟨hx, hb, hml, hown, hts, hK, hamb, hA, -⟩ := id X
        exact va_alen hx hb hK hP a 1 (gmw_of ho) rfl rfl hd (k p la e s m args below meth c G ad0 A X H locs ad ls had hl hP hD hS)
      · rename_i xs ho
        cases hr
        intro p la e s m args below meth c G ad0 A X H locs ad ls had hl hP hD hS
        obtain ⟨hx, hb, hml, hown, hts, hK, hamb, hA, -⟩ := id X
        exact va_alen hx hb hK hP a 2 (gmw_of ho) rfl rfl hd (k p la e s m args below meth c G ad0 A X H locs ad ls had hl hP hD hS)
      · cases hr
  · cases hr
theorem gst_ok {i : Instr} (hd : decode K.2.2.1 pc = .ok (i, glen i)) (hr : gst K sc i pc l st h = some (pc', l', st', h', P)) (hp : gpr P) (k : gW K sc R n0 E cs ss pc' l' st' h') : gW K sc R n0 E cs ss pc l st h := by
  cases i with
  | iconst n => exact gs_iconst hd hr hp k
  | bipush n => exact gs_bipush hd hr hp k
  | sipush n => exact gs_sipush hd hr hp k
  | lconst n => exact gs_lconst hd hr hp k
  | aconst_null => exact gs_null hd hr hp k
  | dconst n => exact gs_dconst hd hr hp k
  | ldc2_w n => exact gs_ldc2 hd hr hp k
  | iload n => exact gs_iload hd hr hp k
  | iload_n n => exact gs_iload_n hd hr hp k
  | istore n => exact gs_istore hd hr hp k
  | istore_n n => exact gs_istore_n hd hr hp k
  | lload n => exact gs_lload hd hr hp k
  | lload_n n => exact gs_lload_n hd hr hp k
  | lstore n => exact gs_lstore hd hr hp k
  | lstore_n n => exact gs_lstore_n hd hr hp k
  | dload n => exact gs_dload hd hr hp k
  | dload_n n => exact gs_dload_n hd hr hp k
  | dstore n => exact gs_dstore hd hr hp k
  | dstore_n n => exact gs_dstore_n hd hr hp k
  | aload n => exact gs_aload hd hr hp k
  | aload_n n => exact gs_aload_n hd hr hp k
  | astore n => exact gs_astore hd hr hp k
  | astore_n n => exact gs_astore_n hd hr hp k
  | iinc n d => exact gs_iinc hd hr hp k
  | pop => exact gs_pop hd hr hp k
  | dup => exact gs_dup hd hr hp k
  | dup2 => exact gs_dup2 hd hr hp k
  | iadd => exact gs_iadd hd hr hp k
  | isub => exact gs_isub hd hr hp k
  | imul => exact gs_imul hd hr hp k
  | iand => exact gs_iand hd hr hp k
  | ladd => exact gs_ladd hd hr hp k
  | lsub => exact gs_lsub hd hr hp k
  | lmul => exact gs_lmul hd hr hp k
  | dmul => exact gs_dmul hd hr hp k
  | dsub => exact gs_dsub hd hr hp k
  | ddiv => exact gs_ddiv hd hr hp k
  | ldc n => exact gs_ldc hd hr hp k
  | irem => exact gs_irem hd hr hp k
  | ishr => exact gs_ishr hd hr hp k
  | idiv => exact gs_idiv hd hr hp k
  | ineg => exact gs_ineg hd hr hp k
  | lshl => exact gs_lshl hd hr hp k
  | lcmp => exact gs_lcmp hd hr hp k
  | i2l => exact gs_i2l hd hr hp k
  | i2d => exact gs_i2d hd hr hp k
  | d2l => exact gs_d2l hd hr hp k
  | dcmp op => exact gs_dcmp hd hr hp k
  | goto d => exact gs_goto hd hr hp k
  | getstatic n => exact gs_getstatic hd hr hp k
  | getfield n => exact gs_getfield hd hr hp k
  | putfield n => exact gs_putfield hd hr hp k
  | iaload => exact gs_iaload hd hr hp k
  | aaload => exact gs_aaload hd hr hp k
  | iastore => exact gs_iastore hd hr hp k
  | aastore => exact gs_aastore hd hr hp k
  | arraylength => exact gs_arraylength hd hr hp k
  | _ => exact nomatch (show (none : Option gSt) = some _ from hr)
theorem gand_spec {P : Option Prop} {Q : Prop} (h : gand P Q) : gpr P ∧ Q := by
  cases P with
  | none => exact ⟨trivial, h⟩
  | some q => exact h
theorem grun_ok {P : Prop} : ∀ (b : List (Nat × Instr)) {pc : Nat} {l : gL} {st : List Value} {h : gH}, gdec K.2.2.1 b = true → grun K sc b pc l st h = some (pc', l', st', h', P) → P → gW K sc R n0 E cs ss pc' l' st' h' → gW K sc R n0 E cs ss pc l st h
  | [], _, _, _, _, _, hr, _, k => by cases hr; exact k
  | q :: r, pc, l, st, h, hd, hr, hP, k => by
    simp only [gdec, Bool.and_eq_true, decide_eq_true_eq] at hd
    unfold grun at hr
    cases hb1 : Nat.beq q.1 pc with
    | false => rw [hb1] at hr; cases hr
    | true =>
      rw [hb1] at hr
      dsimp only [cond] at hr
      have hq : q.1 = pc := Nat.eq_of_beq_eq_true hb1
      split at hr
      · rename_i pc1 l1 st1 h1 P1 h9
        split at hr
        · rename_i pc2 l2 st2 h2 P2 h8
          cases hr
          obtain ⟨hp1, hp2⟩ := gand_spec hP
          exact gst_ok (hq ▸ hd.1) h9 hp1 (grun_ok r hd.2 h8 hp2 k)
        · cases hr
      · cases hr
theorem gdec_at {cc : ByteArray} : ∀ {t : List (Nat × Instr)}, gdec cc t = true → ∀ (k : Nat) {q : Nat} {i : Instr}, t[k]? = some (q, i) → decode cc q = .ok (i, glen i)
  | [], _, k, q, i, hk => by simp at hk
  | x :: r, h, 0, q, i, hk => by
    simp only [gdec, Bool.and_eq_true, decide_eq_true_eq] at h
    cases hk
    exact h.1
  | x :: r, h, k + 1, q, i, hk => by
    simp only [gdec, Bool.and_eq_true, decide_eq_true_eq] at h
    exact gdec_at h.2 k hk
theorem gdec_sub {cc : ByteArray} : ∀ {t b : List (Nat × Instr)}, (∀ x ∈ b, x ∈ t) → gdec cc t = true → gdec cc b = true := by
  intro t b hs ht
  have h1 : ∀ {t : List (Nat × Instr)}, gdec cc t = true → ∀ x ∈ t, decode cc x.1 = .ok (x.2, glen x.2) := by
    intro t
    induction t with
    | nil => intro _ x hx; cases hx
    | cons q r ih =>
      intro h x hx
      simp only [gdec, Bool.and_eq_true, decide_eq_true_eq] at h
      rcases List.mem_cons.mp hx with rfl | hx
      · exact h.1
      · exact ih h.2 x hx
  have h2 := h1 ht
  clear ht h1
  induction b with
  | nil => rfl
  | cons q r ih =>
    simp only [gdec, Bool.and_eq_true, decide_eq_true_eq]
    exact ⟨h2 q (hs q List.mem_cons_self), ih (fun x hx => hs x (List.mem_cons_of_mem _ hx))⟩
/-- a stretch without a branch: instructions a to a + n of the method's row T -/
theorem gW_b {T : List (Nat × Instr)} (hT : gdec K.2.2.1 T = true) (a n : Nat) {P : Prop} (hr : grun K sc ((T.drop a).take n) pc l st h = some (pc', l', st', h', P)) (hP : P) (k : gW K sc R n0 E cs ss pc' l' st' h') : gW K sc R n0 E cs ss pc l st h :=
  grun_ok _ (gdec_sub (fun x hx => List.mem_of_mem_drop (List.mem_of_mem_take hx)) hT) hr hP k
end GS
