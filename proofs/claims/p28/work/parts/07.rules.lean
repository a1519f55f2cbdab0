/-! THE RULES: how a frame branches, ends, calls -/
/-- a value's, a cell's references are cells of the first n, or outer ones -/
def gwv (n : Nat) (v : Value) : Bool := match v with
  | .ref k => Nat.blt k n || Nat.ble 1000 k
  | _ => true
def gwf (n : Nat) (e : gC) : Bool := match e with
  | .inr (.inr (.inl xs)) => xs.all (fun o => match o with | some k => Nat.blt k n || Nat.ble 1000 k | none => true)
  | .inr (.inr (.inr (_, fs))) => fs.all (gwv n)
  | _ => true
theorem gor_lt {n k : Nat} (h : (Nat.blt k n || Nat.ble 1000 k) = true) : k < n ∨ 1000 ≤ k := by
  simp only [Bool.or_eq_true] at h
  rcases h with h | h
  · exact Or.inl (Nat.le_of_ble_eq_true h)
  · exact Or.inr (Nat.le_of_ble_eq_true h)
theorem gmv_congr {n : Nat} {ad ad' : Nat → Nat} (ha : ∀ k, (k < n ∨ 1000 ≤ k) → ad k = ad' k) {v : Value} (h : gwv n v = true) : gmv ad v = gmv ad' v := by
  cases v with
  | ref k => exact congrArg Value.ref (ha k (gor_lt h))
  | _ => rfl
theorem gmc_congr {n : Nat} {G : gG} {ad ad' : Nat → Nat} (ha : ∀ k, (k < n ∨ 1000 ≤ k) → ad k = ad' k) {e : gC} (h : gwf n e = true) : gmc G ad e = gmc G ad' e := by
  rcases e with ⟨k, f⟩ | ⟨k, f⟩ | xs | ⟨ci, fs⟩
  · rfl
  · rfl
  · have h1 : (fun i => (xs.getD i none).map ad) = fun i => (xs.getD i none).map ad' := by
      funext i
      cases hx : xs.getD i none with
      | none => rfl
      | some k =>
        have hm : some k ∈ xs := by
          rw [List.getD_eq_getElem?_getD] at hx
          cases h2 : xs[i]? with
          | none => rw [h2] at hx; cases hx
          | some o => rw [h2] at hx; cases hx; exact List.mem_of_getElem? h2
        have := List.all_eq_true.mp h _ hm
        exact congrArg some (ha k (gor_lt this))
    show (Sum.inl (G.2.2.2, xs.length, Sum.inr (Sum.inr (Sum.inr (Sum.inr _)))) : va_E) = Sum.inl (G.2.2.2, xs.length, Sum.inr (Sum.inr (Sum.inr (Sum.inr _))))
    rw [h1]
  · show (Sum.inr (ci, fs.map (gmv ad)) : va_E) = Sum.inr (ci, fs.map (gmv ad'))
    rw [List.map_congr_left (fun v hv => gmv_congr ha (List.all_eq_true.mp h v hv))]
theorem gmw_congr {n : Nat} {G : gG} {ad ad' : Nat → Nat} (ha : ∀ k, (k < n ∨ 1000 ≤ k) → ad k = ad' k) {h : gH} (hl : h.length ≤ n) (hw : h.all (gwf n) = true) : gmw G ad h = gmw G ad' h := by
  apply List.ext_getElem?
  intro j
  rw [gmw_at, gmw_at]
  cases hj : h[j]? with
  | none => rfl
  | some e =>
    have h1 : j < h.length := (List.getElem?_eq_some_iff.mp hj).1
    show some (ad j, gmc G ad e) = some (ad' j, gmc G ad' e)
    rw [ha j (Or.inl (by omega)), gmc_congr ha (List.all_eq_true.mp hw e (List.mem_of_getElem? hj))]
section GR
variable {K : gK} {sc : Nat × (Nat → Int32)} {R : Room} {n0 : Nat} {E : gO → gH → Prop} {cs ss pc : Nat} {l : gL} {st : List Value} {h : gH}
/-- fewer locals are known -/
theorem gW_l (ks : List Nat) {l' : gL} (hl : lv_pick l ks = l') (k : gW K sc R n0 E cs ss pc l' st h) : gW K sc R n0 E cs ss pc l st h := by
  intro p la e s m args below meth c G ad0 A X H locs ad ls had hls hP hD hS
  refine k p la e s m args below meth c G ad0 A X H locs ad ls had ⟨hls.1, hls.2.1, fun q hq => ?_⟩ hP hD hS
  obtain ⟨x, hx, rfl⟩ := List.mem_map.mp hq
  subst hl
  obtain ⟨i, -, hi⟩ := List.mem_filterMap.mp hx
  exact hls.2.2 _ (gml_mem (List.mem_of_getElem? hi))
/-- the counts of what is new may be put higher -/
theorem gW_n {cs' ss' : Nat} (h1 : cs ≤ cs') (h2 : ss ≤ ss') (k : gW K sc R n0 E cs' ss' pc l st h) : gW K sc R n0 E cs ss pc l st h := by
  intro p la e s m args below meth c G ad0 A X H locs ad ls had hl hP hD hS
  exact W.widen h1 h2 (k p la e s m args below meth c G ad0 A X H locs ad ls had hl hP hD hS)
theorem gW_post {E' : gO → gH → Prop} (hE : ∀ o h, E' o h → E o h) (k : gW K sc R n0 E' cs ss pc l st h) : gW K sc R n0 E cs ss pc l st h := by
  intro p la e s m args below meth c G ad0 A X H locs ad ls had hl hP hD hS T hT Xs
  obtain ⟨t, a1, o, b1, b2, b3⟩ := k p la e s m args below meth c G ad0 A X H locs ad ls had hl hP hD hS T hT Xs
  refine ⟨t, a1, o, b1, b2, ?_⟩
  rcases b3 with ⟨⟨⟨ad', v, h', q1, q2, q3⟩, q4⟩, q5⟩ | ⟨q, q1, E0, ce, L, ⟨⟨h', r1, r2⟩, r3⟩, q2⟩
  · exact Or.inl ⟨⟨⟨ad', v, h', q1, hE _ _ q2, q3⟩, q4⟩, q5⟩
  · exact Or.inr ⟨q, q1, E0, ce, L, ⟨⟨h', hE _ _ r1, r2⟩, r3⟩, q2⟩
theorem gW_if_eq {x : Int32} {off : Int} {tgt : Nat} (hd : decode K.2.2.1 pc = .ok (.ifCond .eq off, 3)) (ht : (pc : Int) + off = (tgt : Int)) (kt : x = 0 → gW K sc R n0 E cs ss tgt l st h) (kf : ¬ (x = 0) → gW K sc R n0 E cs ss (pc + 3) l st h) : gW K sc R n0 E cs ss pc l (.int x :: st) h := by
  intro p la e s m args below meth c G ad0 A X H locs ad ls had hl hP hD hS
  obtain ⟨hx, hb, -⟩ := id X
  exact lv_if_eq hx hb hd ht (fun z => kt z p la e s m args below meth c G ad0 A X H locs ad ls had hl hP hD hS) (fun z => kf z p la e s m args below meth c G ad0 A X H locs ad ls had hl hP hD hS)
theorem gW_ic_eq {x y : Int32} {off : Int} {tgt : Nat} (hd : decode K.2.2.1 pc = .ok (.if_icmp .eq off, 3)) (ht : (pc : Int) + off = (tgt : Int)) (kt : x = y → gW K sc R n0 E cs ss tgt l st h) (kf : ¬ (x = y) → gW K sc R n0 E cs ss (pc + 3) l st h) : gW K sc R n0 E cs ss pc l (.int y :: .int x :: st) h := by
  intro p la e s m args below meth c G ad0 A X H locs ad ls had hl hP hD hS
  obtain ⟨hx, hb, -⟩ := id X
  exact lv_icmp_eq hx hb hd ht (fun z => kt z p la e s m args below meth c G ad0 A X H locs ad ls had hl hP hD hS) (fun z => kf z p la e s m args below meth c G ad0 A X H locs ad ls had hl hP hD hS)
theorem gW_if_ne {x : Int32} {off : Int} {tgt : Nat} (hd : decode K.2.2.1 pc = .ok (.ifCond .ne off, 3)) (ht : (pc : Int) + off = (tgt : Int)) (kt : ¬ x = 0 → gW K sc R n0 E cs ss tgt l st h) (kf : x = 0 → gW K sc R n0 E cs ss (pc + 3) l st h) : gW K sc R n0 E cs ss pc l (.int x :: st) h := by
  intro p la e s m args below meth c G ad0 A X H locs ad ls had hl hP hD hS
  obtain ⟨hx, hb, -⟩ := id X
  exact lv_if_ne hx hb hd ht (fun z => kt z p la e s m args below meth c G ad0 A X H locs ad ls had hl hP hD hS) (fun z => kf z p la e s m args below meth c G ad0 A X H locs ad ls had hl hP hD hS)
theorem gW_ic_ne {x y : Int32} {off : Int} {tgt : Nat} (hd : decode K.2.2.1 pc = .ok (.if_icmp .ne off, 3)) (ht : (pc : Int) + off = (tgt : Int)) (kt : ¬ x = y → gW K sc R n0 E cs ss tgt l st h) (kf : x = y → gW K sc R n0 E cs ss (pc + 3) l st h) : gW K sc R n0 E cs ss pc l (.int y :: .int x :: st) h := by
  intro p la e s m args below meth c G ad0 A X H locs ad ls had hl hP hD hS
  obtain ⟨hx, hb, -⟩ := id X
  exact lv_icmp_ne hx hb hd ht (fun z => kt z p la e s m args below meth c G ad0 A X H locs ad ls had hl hP hD hS) (fun z => kf z p la e s m args below meth c G ad0 A X H locs ad ls had hl hP hD hS)
theorem gW_if_lt {x : Int32} {off : Int} {tgt : Nat} (hd : decode K.2.2.1 pc = .ok (.ifCond .lt off, 3)) (ht : (pc : Int) + off = (tgt : Int)) (kt : x < 0 → gW K sc R n0 E cs ss tgt l st h) (kf : ¬ (x < 0) → gW K sc R n0 E cs ss (pc + 3) l st h) : gW K sc R n0 E cs ss pc l (.int x :: st) h := by
  intro p la e s m args below meth c G ad0 A X H locs ad ls had hl hP hD hS
  obtain ⟨hx, hb, -⟩ := id X
  exact lv_if_lt hx hb hd ht (fun z => kt z p la e s m args below meth c G ad0 A X H locs ad ls had hl hP hD hS) (fun z => kf z p la e s m args below meth c G ad0 A X H locs ad ls had hl hP hD hS)
theorem gW_ic_lt {x y : Int32} {off : Int} {tgt : Nat} (hd : decode K.2.2.1 pc = .ok (.if_icmp .lt off, 3)) (ht : (pc : Int) + off = (tgt : Int)) (kt : x < y → gW K sc R n0 E cs ss tgt l st h) (kf : ¬ (x < y) → gW K sc R n0 E cs ss (pc + 3) l st h) : gW K sc R n0 E cs ss pc l (.int y :: .int x :: st) h := by
  intro p la e s m args below meth c G ad0 A X H locs ad ls had hl hP hD hS
  obtain ⟨hx, hb, -⟩ := id X
  exact lv_icmp_lt hx hb hd ht (fun z => kt z p la e s m args below meth c G ad0 A X H locs ad ls had hl hP hD hS) (fun z => kf z p la e s m args below meth c G ad0 A X H locs ad ls had hl hP hD hS)
theorem gW_if_ge {x : Int32} {off : Int} {tgt : Nat} (hd : decode K.2.2.1 pc = .ok (.ifCond .ge off, 3)) (ht : (pc : Int) + off = (tgt : Int)) (kt : 0 ≤ x → gW K sc R n0 E cs ss tgt l st h) (kf : ¬ (0 ≤ x) → gW K sc R n0 E cs ss (pc + 3) l st h) : gW K sc R n0 E cs ss pc l (.int x :: st) h := by
  intro p la e s m args below meth c G ad0 A X H locs ad ls had hl hP hD hS
  obtain ⟨hx, hb, -⟩ := id X
  exact lv_if_ge hx hb hd ht (fun z => kt z p la e s m args below meth c G ad0 A X H locs ad ls had hl hP hD hS) (fun z => kf z p la e s m args below meth c G ad0 A X H locs ad ls had hl hP hD hS)
theorem gW_ic_ge {x y : Int32} {off : Int} {tgt : Nat} (hd : decode K.2.2.1 pc = .ok (.if_icmp .ge off, 3)) (ht : (pc : Int) + off = (tgt : Int)) (kt : y ≤ x → gW K sc R n0 E cs ss tgt l st h) (kf : ¬ (y ≤ x) → gW K sc R n0 E cs ss (pc + 3) l st h) : gW K sc R n0 E cs ss pc l (.int y :: .int x :: st) h := by
  intro p la e s m args below meth c G ad0 A X H locs ad ls had hl hP hD hS
  obtain ⟨hx, hb, -⟩ := id X
  exact lv_icmp_ge hx hb hd ht (fun z => kt z p la e s m args below meth c G ad0 A X H locs ad ls had hl hP hD hS) (fun z => kf z p la e s m args below meth c G ad0 A X H locs ad ls had hl hP hD hS)
theorem gW_if_gt {x : Int32} {off : Int} {tgt : Nat} (hd : decode K.2.2.1 pc = .ok (.ifCond .gt off, 3)) (ht : (pc : Int) + off = (tgt : Int)) (kt : 0 < x → gW K sc R n0 E cs ss tgt l st h) (kf : ¬ (0 < x) → gW K sc R n0 E cs ss (pc + 3) l st h) : gW K sc R n0 E cs ss pc l (.int x :: st) h := by
  intro p la e s m args below meth c G ad0 A X H locs ad ls had hl hP hD hS
  obtain ⟨hx, hb, -⟩ := id X
  exact lv_if_gt hx hb hd ht (fun z => kt z p la e s m args below meth c G ad0 A X H locs ad ls had hl hP hD hS) (fun z => kf z p la e s m args below meth c G ad0 A X H locs ad ls had hl hP hD hS)
theorem gW_ic_gt {x y : Int32} {off : Int} {tgt : Nat} (hd : decode K.2.2.1 pc = .ok (.if_icmp .gt off, 3)) (ht : (pc : Int) + off = (tgt : Int)) (kt : y < x → gW K sc R n0 E cs ss tgt l st h) (kf : ¬ (y < x) → gW K sc R n0 E cs ss (pc + 3) l st h) : gW K sc R n0 E cs ss pc l (.int y :: .int x :: st) h := by
  intro p la e s m args below meth c G ad0 A X H locs ad ls had hl hP hD hS
  obtain ⟨hx, hb, -⟩ := id X
  exact lv_icmp_gt hx hb hd ht (fun z => kt z p la e s m args below meth c G ad0 A X H locs ad ls had hl hP hD hS) (fun z => kf z p la e s m args below meth c G ad0 A X H locs ad ls had hl hP hD hS)
theorem gW_if_le {x : Int32} {off : Int} {tgt : Nat} (hd : decode K.2.2.1 pc = .ok (.ifCond .le off, 3)) (ht : (pc : Int) + off = (tgt : Int)) (kt : x ≤ 0 → gW K sc R n0 E cs ss tgt l st h) (kf : ¬ (x ≤ 0) → gW K sc R n0 E cs ss (pc + 3) l st h) : gW K sc R n0 E cs ss pc l (.int x :: st) h := by
  intro p la e s m args below meth c G ad0 A X H locs ad ls had hl hP hD hS
  obtain ⟨hx, hb, -⟩ := id X
  exact lv_if_le hx hb hd ht (fun z => kt z p la e s m args below meth c G ad0 A X H locs ad ls had hl hP hD hS) (fun z => kf z p la e s m args below meth c G ad0 A X H locs ad ls had hl hP hD hS)
theorem gW_ic_le {x y : Int32} {off : Int} {tgt : Nat} (hd : decode K.2.2.1 pc = .ok (.if_icmp .le off, 3)) (ht : (pc : Int) + off = (tgt : Int)) (kt : x ≤ y → gW K sc R n0 E cs ss tgt l st h) (kf : ¬ (x ≤ y) → gW K sc R n0 E cs ss (pc + 3) l st h) : gW K sc R n0 E cs ss pc l (.int y :: .int x :: st) h := by
  intro p la e s m args below meth c G ad0 A X H locs ad ls had hl hP hD hS
  obtain ⟨hx, hb, -⟩ := id X
  exact lv_icmp_le hx hb hd ht (fun z => kt z p la e s m args below meth c G ad0 A X H locs ad ls had hl hP hD hS) (fun z => kf z p la e s m args below meth c G ad0 A X H locs ad ls had hl hP hD hS)
/-- the answer is an int (or a boolean, a char ..) -/
theorem gW_iret {x : Int32} {ty : FieldType} (hd : decode K.2.2.1 pc = .ok (.ireturn, 1)) (hr : K.2.2.2.2.1 = some ty) (hn : narrow ty (.int x) = .int x) (hlen : n0 ≤ h.length) (hE : E (.inl (some (.int x))) h) (hc : cs ≤ R.cells) (hs : ss ≤ R.slots) : gW K sc R n0 E cs ss pc l [.int x] h := by
  intro p la e s m args below meth c G ad0 A X H locs ad ls had hl hP hD hS
  obtain ⟨hx, hb, hml, hown, hts, hK, hamb, hA, -, hlk, hrt, -⟩ := id X
  refine W.widen hc hs (vx_ret ?_)
  exact W.zret hx hb (hrt.trans hr) hn (fun t ht _ => ⟨⟨ad, some (.int x), h, rfl, hE, hlen, had, by rw [ht]; exact hP, hD⟩, hS.F ht⟩) hS.2.2 hd hlk
theorem gW_lret {x : Int64} (hd : decode K.2.2.1 pc = .ok (.lreturn, 1)) (hr : K.2.2.2.2.1 = some .long) (hlen : n0 ≤ h.length) (hE : E (.inl (some (.long x))) h) (hc : cs ≤ R.cells) (hs : ss ≤ R.slots) : gW K sc R n0 E cs ss pc l [.long x] h := by
  intro p la e s m args below meth c G ad0 A X H locs ad ls had hl hP hD hS
  obtain ⟨hx, hb, hml, hown, hts, hK, hamb, hA, -, hlk, hrt, -⟩ := id X
  refine W.widen hc hs (vx_ret ?_)
  exact W.lret hx hb (hrt.trans hr) (fun t ht _ => ⟨⟨ad, some (.long x), h, rfl, hE, hlen, had, by rw [ht]; exact hP, hD⟩, hS.F ht⟩) hS.2.2 hd hlk
theorem gW_dret {x : UInt64} (hd : decode K.2.2.1 pc = .ok (.dreturn, 1)) (hr : K.2.2.2.2.1 = some .double) (hlen : n0 ≤ h.length) (hE : E (.inl (some (.double x))) h) (hc : cs ≤ R.cells) (hs : ss ≤ R.slots) : gW K sc R n0 E cs ss pc l [.double x] h := by
  intro p la e s m args below meth c G ad0 A X H locs ad ls had hl hP hD hS
  obtain ⟨hx, hb, hml, hown, hts, hK, hamb, hA, -, hlk, hrt, -⟩ := id X
  refine W.widen hc hs (vx_ret ?_)
  exact W.dret hx hb (hrt.trans hr) (fun t ht _ => ⟨⟨ad, some (.double x), h, rfl, hE, hlen, had, by rw [ht]; exact hP, hD⟩, hS.F ht⟩) hS.2.2 hd hlk
theorem gW_vret (hd : decode K.2.2.1 pc = .ok (.return_, 1)) (hr : K.2.2.2.2.1 = none) (hlen : n0 ≤ h.length) (hE : E (.inl none) h) (hc : cs ≤ R.cells) (hs : ss ≤ R.slots) : gW K sc R n0 E cs ss pc l [] h := by
  intro p la e s m args below meth c G ad0 A X H locs ad ls had hl hP hD hS
  obtain ⟨hx, hb, hml, hown, hts, hK, hamb, hA, -, hlk, hrt, -⟩ := id X
  refine W.widen hc hs (vx_ret ?_)
  exact W.vret hx hb (hrt.trans hr) (fun t ht _ => ⟨⟨ad, none, h, rfl, hE, hlen, had, by rw [ht]; exact hP, hD⟩, hS.F ht⟩) hS.2.2 hd hlk
theorem gW_aret {a : Nat} {C : String} (hd : decode K.2.2.1 pc = .ok (.areturn, 1)) (hr : K.2.2.2.2.1 = some (.object C)) (hlen : n0 ≤ h.length) (hE : E (.inl (some (.ref a))) h) (hc : cs ≤ R.cells) (hs : ss ≤ R.slots) : gW K sc R n0 E cs ss pc l [.ref a] h := by
  intro p la e s m args below meth c G ad0 A X H locs ad ls had hl hP hD hS
  obtain ⟨hx, hb, hml, hown, hts, hK, hamb, hA, -, hlk, hrt, -⟩ := id X
  refine W.widen hc hs (vx_ret ?_)
  exact W.aret hx hb (hrt.trans hr) (Or.inl ⟨_, rfl⟩) (Or.inr ⟨_, rfl⟩) (fun t ht _ => ⟨⟨ad, some (.ref a), h, rfl, hE, hlen, had, by rw [ht]; exact hP, hD⟩, hS.F ht⟩) hS.2.2 hd hlk
theorem gW_tin {dflt lo hi : Int} {offs : Array Int} {len : Nat} {x : Int32} {off : Int} {tgt : Nat} (hd : decode K.2.2.1 pc = .ok (.tableswitch dflt lo hi offs, len)) (h1 : ¬ x.toInt < lo) (h2 : ¬ hi < x.toInt) (ho : offs[(x.toInt - lo).toNat]? = some off) (ht : (pc : Int) + off = (tgt : Int)) (k : gW K sc R n0 E cs ss tgt l st h) : gW K sc R n0 E cs ss pc l (.int x :: st) h := by
  intro p la e s m args below meth c G ad0 A X H locs ad ls had hl hP hD hS
  obtain ⟨hx, hb, -⟩ := id X
  exact lv_tableIn hx hb hd h1 h2 ho ht (k p la e s m args below meth c G ad0 A X H locs ad ls had hl hP hD hS)
theorem gW_tout {dflt lo hi : Int} {offs : Array Int} {len : Nat} {x : Int32} {tgt : Nat} (hd : decode K.2.2.1 pc = .ok (.tableswitch dflt lo hi offs, len)) (h1 : x.toInt < lo ∨ hi < x.toInt) (ht : (pc : Int) + dflt = (tgt : Int)) (k : gW K sc R n0 E cs ss tgt l st h) : gW K sc R n0 E cs ss pc l (.int x :: st) h := by
  intro p la e s m args below meth c G ad0 A X H locs ad ls had hl hP hD hS
  obtain ⟨hx, hb, -⟩ := id X
  exact lv_tableOut hx hb hd h1 ht (k p la e s m args below meth c G ad0 A X H locs ad ls had hl hP hD hS)
theorem gW_nn {a : Nat} {off : Int} (hd : decode K.2.2.1 pc = .ok (.ifnull off, 3)) (k : gW K sc R n0 E cs ss (pc + 3) l st h) : gW K sc R n0 E cs ss pc l (.ref a :: st) h := by
  intro p la e s m args below meth c G ad0 A X H locs ad ls had hl hP hD hS
  obtain ⟨hx, hb, -⟩ := id X
  exact lv_ifnull hx hb hd (k p la e s m args below meth c G ad0 A X H locs ad ls had hl hP hD hS)
theorem gcats (ad : Nat → Nat) (st : List Value) : ((st.map (gmv ad)).map fun v => v.category) = st.map fun v => v.category := by
  rw [List.map_map]
  exact List.map_congr_left fun v _ => gmv_cat ad v
/-- throw new X("..") in the class GoldSheets -/
theorem gW_throw {o : Nat} {y : MethodName} {cc : ByteArray} {nL : Nat} {ret : Option FieldType} {ik ic is : Nat} {cls text : String} (hgx : gExP ik ic cls) (ho : o = 5) (hstr : ("GoldSheets", is, text) ∈ gStr)
    (d0 : decode cc pc = .ok (.new ik, 3)) (d3 : decode cc (pc + 3) = .ok (.dup, 1)) (d4 : decode cc (pc + 4) = .ok (.ldc is, 2)) (d6 : decode cc (pc + 6) = .ok (.invokespecial ic, 3)) (d9 : decode cc (pc + 9) = .ok (.athrow, 1))
    (hlen : h.length = n0) (hw : h.all (gwf n0) = true) (hE : E (.inr cls) h) (hRf : 5 < R.frames) (hRl : (st.map fun v => v.category).sum + 82 ≤ R.locals) (hRc : cs + 1 ≤ R.cells) (hRs : ss + 6 ≤ R.slots) : gW (o, y, cc, nL, ret, []) sc R n0 E cs ss pc l st h := by
  intro p la e s m args below meth c G ad0 A X H locs ad ls had hl hP hD hS
  obtain ⟨hx, hb, hml, hown, hts, hK, hamb, hA, hla, hlk, hrt, hnm, htb⟩ := id X
  subst ho
  obtain ⟨a, ha⟩ := hamb.2.2.2.1 _ hstr
  obtain ⟨g1, g2, g3, g4, g5⟩ := hgx
  have hbef : ∀ w, (w ∈ gTs ∨ w ∈ gNs) → w.before args s = true := fun w hw => hw.elim (hts w) (gNs_use hamb.2.2.2.2 w)
  have hcg : gmw G ad h = gmw G ad0 h := gmw_congr (n := n0) had (Nat.le_of_eq hlen) hw
  refine vx_throwS hx hb hla hown g1 gXn_fit (hts _ g2) (hts _ g3) ha (fun w hw => hbef w (g4 w hw)) g5 hamb.1.1 hamb.1.2.1 hS (hl.1.trans hml.symm) d0 d3 d4 d6 d9 ?_ hRf ?_ hRc hRs hlk ?_ hS.2.2 hRc hRs
  · intro x hx
    rw [htb] at hx
    cases hx
  · rw [gcats]
    exact hRl
  · intro t hvm hsz hk
    have hkeep : ∀ q : Nat, q < H.size → t.heap[q]? = H[q]? := hk
    refine ⟨⟨h, hE, hlen, ?_, ?_⟩, ?_⟩
    · rw [← hcg]
      exact hP.kept (fun k q hq => hkeep q.1 (hP k q hq).lt)
    · rw [← hcg]
      exact hD
    · exact ⟨Nat.le_trans hS.1 hsz, fun q hq hqA => by rw [hkeep q (Nat.lt_of_lt_of_le hq hS.1)]; exact hS.2.1 q hq hqA⟩
theorem gW_throwW {o : Nat} {y : MethodName} {cc : ByteArray} {nL : Nat} {ret : Option FieldType} {ik ic is : Nat} {cls text : String} (hgx : gExP ik ic cls) (ho : o = 5) (hstr : ("GoldSheets", is, text) ∈ gStr)
    (d0 : decode cc pc = .ok (.new ik, 3)) (d3 : decode cc (pc + 3) = .ok (.dup, 1)) (d4 : decode cc (pc + 4) = .ok (.ldc_w is, 3)) (d6 : decode cc (pc + 7) = .ok (.invokespecial ic, 3)) (d9 : decode cc (pc + 10) = .ok (.athrow, 1))
    (hlen : h.length = n0) (hw : h.all (gwf n0) = true) (hE : E (.inr cls) h) (hRf : 5 < R.frames) (hRl : (st.map fun v => v.category).sum + 82 ≤ R.locals) (hRc : cs + 1 ≤ R.cells) (hRs : ss + 6 ≤ R.slots) : gW (o, y, cc, nL, ret, []) sc R n0 E cs ss pc l st h := by
  intro p la e s m args below meth c G ad0 A X H locs ad ls had hl hP hD hS
  obtain ⟨hx, hb, hml, hown, hts, hK, hamb, hA, hla, hlk, hrt, hnm, htb⟩ := id X
  subst ho
  obtain ⟨a, ha⟩ := hamb.2.2.2.1 _ hstr
  obtain ⟨g1, g2, g3, g4, g5⟩ := hgx
  have hbef : ∀ w, (w ∈ gTs ∨ w ∈ gNs) → w.before args s = true := fun w hw => hw.elim (hts w) (gNs_use hamb.2.2.2.2 w)
  have hcg : gmw G ad h = gmw G ad0 h := gmw_congr (n := n0) had (Nat.le_of_eq hlen) hw
  refine vx_throwSW hx hb hla hown g1 gXn_fit (hts _ g2) (hts _ g3) ha (fun w hw => hbef w (g4 w hw)) g5 hamb.1.1 hamb.1.2.1 hS (hl.1.trans hml.symm) d0 d3 d4 d6 d9 ?_ hRf ?_ hRc hRs hlk ?_ hS.2.2 hRc hRs
  · intro x hx
    rw [htb] at hx
    cases hx
  · rw [gcats]
    exact hRl
  · intro t hvm hsz hk
    have hkeep : ∀ q : Nat, q < H.size → t.heap[q]? = H[q]? := hk
    refine ⟨⟨h, hE, hlen, ?_, ?_⟩, ?_⟩
    · rw [← hcg]
      exact hP.kept (fun k q hq => hkeep q.1 (hP k q hq).lt)
    · rw [← hcg]
      exact hD
    · exact ⟨Nat.le_trans hS.1 hsz, fun q hq hqA => by rw [hkeep q (Nat.lt_of_lt_of_le hq hS.1)]; exact hS.2.1 q hq hqA⟩
theorem gW_min {i : Nat} {x y : Int32} (hl0 : Cond.methodLink (gown K.1) i Lib.Math.min.name ∈ gTs) (hd : decode K.2.2.1 pc = .ok (.invokestatic i, 3)) (hf : 1 ≤ R.frames) (hlo : (st.map fun v => v.category).sum + 13 ≤ R.locals) (hc : cs ≤ R.cells) (hs : ss ≤ R.slots) (k : gW K sc R n0 E cs ss (pc + 3) l (.int (if y < x then y else x) :: st) h) : gW K sc R n0 E cs ss pc l (.int y :: .int x :: st) h := by
  intro p la e s m args below meth c G ad0 A X H locs ad ls had hl hP hD hS
  obtain ⟨hx, hb, hml, hown, hts, hK, hamb, hA, -⟩ := id X
  exact va_mmin hx hb (hml.trans hl.1.symm) hown (hts _ hl0) (hts _ (gmem 77 (by decide +kernel))) (hts _ (gmem 18 (by decide +kernel))) (hts _ (gmem 78 (by decide +kernel))) hf (by rw [gcats]; exact hlo) hc hs hd (k p la e s m args below meth c G ad0 A X H locs ad ls had hl hP hD hS)
theorem gW_max {i : Nat} {x y : Int32} (hl0 : Cond.methodLink (gown K.1) i Lib.Math.max.name ∈ gTs) (hd : decode K.2.2.1 pc = .ok (.invokestatic i, 3)) (hf : 1 ≤ R.frames) (hlo : (st.map fun v => v.category).sum + 13 ≤ R.locals) (hc : cs ≤ R.cells) (hs : ss ≤ R.slots) (k : gW K sc R n0 E cs ss (pc + 3) l (.int (if x < y then y else x) :: st) h) : gW K sc R n0 E cs ss pc l (.int y :: .int x :: st) h := by
  intro p la e s m args below meth c G ad0 A X H locs ad ls had hl hP hD hS
  obtain ⟨hx, hb, hml, hown, hts, hK, hamb, hA, -⟩ := id X
  exact va_mmax hx hb (hml.trans hl.1.symm) hown (hts _ hl0) (hts _ (gmem 359 (by decide +kernel))) (hts _ (gmem 18 (by decide +kernel))) (hts _ (gmem 360 (by decide +kernel))) hf (by rw [gcats]; exact hlo) hc hs hd (k p la e s m args below meth c G ad0 A X H locs ad ls had hl hP hD hS)
end GR
