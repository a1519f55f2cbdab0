/-! THE PURE HALF, taken over from whole by wip/p28/port2.py -/
/-! ROWS: a section's five cells; both sides hold the same rows, in orders of their own -/
abbrev Rw : Type := Int32 × Int32 × Int32 × Int32 × Int32
abbrev rNo (r : Rw) : Int32 := r.1
abbrev rTo (r : Rw) : Int32 := r.2.1
abbrev rWa (r : Rw) : Int32 := r.2.2.1
abbrev rDu (r : Rw) : Int32 := r.2.2.2.1
abbrev rHa (r : Rw) : Int32 := r.2.2.2.2
def row (g : Nat → Int32) (p : Nat) : Rw := (g (p * 5 + 0), g (p * 5 + 1), g (p * 5 + 2), g (p * 5 + 3), g (p * 5 + 4))
def rows (g : Nat → Int32) (n : Nat) : List Rw := (List.range n).map (row g)
def rk (k : Nat) (r : Rw) : Int32 := if k = 2 then rWa r else rDu r
def rlt (k : Nat) (r s : Rw) : Prop := if rk k r = rk k s then rNo r < rNo s else rk k r < rk k s
abbrev rne (r s : Rw) : Prop := rNo r ≠ rNo s
theorem rlt_iff {k : Nat} {r s : Rw} : rlt k r s ↔ (rk k r).toInt < (rk k s).toInt ∨ ((rk k r).toInt = (rk k s).toInt ∧ (rNo r).toInt < (rNo s).toInt) := by
  unfold rlt
  by_cases h : rk k r = rk k s
  · rw [if_pos h, h, ilt]
    omega
  · rw [if_neg h, ilt]
    have := mt ieq.mpr h
    omega
theorem rlt_ir {k : Nat} {r : Rw} : ¬ rlt k r r := by rw [rlt_iff]; omega
theorem rlt_tr {k : Nat} {r s t : Rw} (h1 : rlt k r s) (h2 : rlt k s t) : rlt k r t := by rw [rlt_iff] at *; omega
theorem rlt_tot {k : Nat} {r s : Rw} (h : rne r s) (h1 : ¬ rlt k r s) : rlt k s r := by
  have := mt ieq.mpr h
  rw [rlt_iff] at *
  omega
theorem cb_row {k : Nat} (hk : k = 2 ∨ k = 3) (g : Nat → Int32) (p o : Nat) : cb k g p o = true ↔ rlt k (row g p) (row g o) := by
  unfold cb rlt
  rcases hk with rfl | rfl
  · show _ ↔ if g (p * 5 + 2) = g (o * 5 + 2) then g (p * 5 + 0) < g (o * 5 + 0) else g (p * 5 + 2) < g (o * 5 + 2)
    split <;> simp
  · show _ ↔ if g (p * 5 + 3) = g (o * 5 + 3) then g (p * 5 + 0) < g (o * 5 + 0) else g (p * 5 + 3) < g (o * 5 + 3)
    split <;> simp
theorem keyOf_k (o : Int32) : keyOf o = 2 ∨ keyOf o = 3 := by unfold keyOf; split <;> simp
/-- one order alone is right -/
theorem uniq {k : Nat} : ∀ {l1 l2 : List Rw}, l1.Perm l2 → l1.Pairwise (rlt k) → l2.Pairwise (rlt k) → l1 = l2
  | [], l2, h, _, _ => (List.nil_perm.mp h).symm
  | a :: t1, l2, h, h1, h2 => by
    cases l2 with
    | nil => exact absurd h (by simp)
    | cons b t2 =>
      have ha : a ∈ b :: t2 := h.mem_iff.mp List.mem_cons_self
      have hb : b ∈ a :: t1 := h.mem_iff.mpr List.mem_cons_self
      obtain ⟨p1, q1⟩ := List.pairwise_cons.mp h1
      obtain ⟨p2, q2⟩ := List.pairwise_cons.mp h2
      have hab : a = b := by
        rcases List.mem_cons.mp ha with e | ha
        · exact e
        · rcases List.mem_cons.mp hb with e | hb
          · exact e.symm
          · exact absurd (rlt_tr (p1 b hb) (p2 a ha)) rlt_ir
      subst hab
      rw [uniq ((List.perm_cons a).mp h) q1 q2]
theorem rows_s (g : Nat → Int32) (n : Nat) : rows g (n + 1) = rows g n ++ [row g n] := by
  unfold rows
  rw [List.range_succ, List.map_append]
  rfl
theorem rows_c {g g' : Nat → Int32} {n : Nat} (h : ∀ p, p < n → row g p = row g' p) : rows g n = rows g' n := by
  unfold rows
  exact List.map_congr_left fun p hp => h p (List.mem_range.mp hp)
theorem rows_len (g : Nat → Int32) (n : Nat) : (rows g n).length = n := by unfold rows; simp
theorem rows_mem {g : Nat → Int32} {n p : Nat} (h : p < n) : row g p ∈ rows g n := List.mem_map_of_mem (List.mem_range.mpr h)
theorem rows_of {g : Nat → Int32} {n : Nat} {r : Rw} (h : r ∈ rows g n) : ∃ p, p < n ∧ r = row g p := by
  obtain ⟨p, hp, e⟩ := List.mem_map.mp h
  exact ⟨p, List.mem_range.mp hp, e.symm⟩
theorem rows_at {g : Nat → Int32} {n p : Nat} (h : p < n) : (rows g n)[p]? = some (row g p) := by
  unfold rows
  rw [List.getElem?_map, List.getElem?_range h]
  rfl
theorem row_swap {g : Nat → Int32} {p o : Nat} (hpo : p ≠ o) (q : Nat) : row (swapF g p o) q = row g (if q = o then p else if q = p then o else q) := by
  unfold row
  rw [swapF_at hpo (by omega), swapF_at hpo (by omega), swapF_at hpo (by omega), swapF_at hpo (by omega), swapF_at hpo (by omega)]
theorem inn_ok {k : Nat} (hk : k = 2 ∨ k = 3) : ∀ (p : Nat) (g : Nat → Int32), (rows g p).Pairwise (rlt k) → (rows g (p + 1)).Pairwise rne → (rows (inn k p g) (p + 1)).Pairwise (rlt k) ∧ (rows (inn k p g) (p + 1)).Perm (rows g (p + 1)) ∧ ∀ q, p < q → row (inn k p g) q = row g q
  | 0, g, _, _ => ⟨List.pairwise_singleton _ _, List.Perm.refl _, fun _ _ => rfl⟩
  | p + 1, g, h, hd => by
    rw [rows_s] at h
    obtain ⟨h1, -, h2⟩ := List.pairwise_append.mp h
    unfold inn
    by_cases hc : cb k g (p + 1) p = true
    · rw [if_pos hc]
      have hne : p + 1 ≠ p := by omega
      have e1 : ∀ q, q < p → row (swapF g (p + 1) p) q = row g q := fun q hq => by rw [row_swap hne, if_neg (by omega), if_neg (by omega)]
      have e2 : row (swapF g (p + 1) p) p = row g (p + 1) := by rw [row_swap hne, if_pos rfl]
      have e3 : row (swapF g (p + 1) p) (p + 1) = row g p := by rw [row_swap hne, if_neg (by omega), if_pos rfl]
      have e4 : rows (swapF g (p + 1) p) (p + 1) = rows g p ++ [row g (p + 1)] := by rw [rows_s, rows_c e1, e2]
      have hd' : (rows (swapF g (p + 1) p) (p + 1)).Pairwise rne := by
        rw [e4]
        rw [rows_s, rows_s, List.append_assoc] at hd
        obtain ⟨d1, d2, d3⟩ := List.pairwise_append.mp hd
        exact List.pairwise_append.mpr ⟨d1, List.pairwise_singleton _ _, fun a ha b hb => d3 a ha b (by rw [List.mem_singleton.mp hb]; simp)⟩
      obtain ⟨i1, i2, i3⟩ := inn_ok hk p (swapF g (p + 1) p) (by rw [rows_c e1]; exact h1) hd'
      have e5 : rows (inn k p (swapF g (p + 1) p)) (p + 1 + 1) = rows (inn k p (swapF g (p + 1) p)) (p + 1) ++ [row g p] := by rw [rows_s, i3 (p + 1) (by omega), e3]
      refine ⟨?_, ?_, fun q hq => ?_⟩
      · rw [e5]
        refine List.pairwise_append.mpr ⟨i1, List.pairwise_singleton _ _, fun a ha b hb => ?_⟩
        rw [List.mem_singleton.mp hb]
        have ha := i2.mem_iff.mp ha
        rw [e4] at ha
        rcases List.mem_append.mp ha with ha | ha
        · exact h2 a ha _ (List.mem_singleton.mpr rfl)
        · rw [List.mem_singleton.mp ha]
          exact (cb_row hk g _ _).mp hc
      · rw [e5, rows_s g (p + 1), rows_s g p]
        refine (i2.append_right _).trans ?_
        rw [e4, List.append_assoc, List.append_assoc]
        exact List.Perm.append_left _ (List.Perm.swap _ _ _)
      · rw [i3 q (by omega), row_swap hne, if_neg (by omega), if_neg (by omega)]
    · rw [if_neg hc]
      refine ⟨?_, List.Perm.refl _, fun _ _ => rfl⟩
      rw [rows_s g (p + 1), rows_s g p]
      have hlt : rlt k (row g p) (row g (p + 1)) := by
        refine rlt_tot ?_ (fun q => hc ((cb_row hk g _ _).mpr q))
        rw [rows_s, rows_s, List.append_assoc] at hd
        obtain ⟨-, d2, -⟩ := List.pairwise_append.mp hd
        have := (List.pairwise_cons.mp d2).1 (row g (p + 1)) (by simp)
        exact fun q => this q.symm
      refine List.pairwise_append.mpr ⟨h, List.pairwise_singleton _ _, fun a ha b hb => ?_⟩
      rw [List.mem_singleton.mp hb]
      rcases List.mem_append.mp ha with ha | ha
      · exact rlt_tr (h2 a ha _ (List.mem_singleton.mpr rfl)) hlt
      · rw [List.mem_singleton.mp ha]; exact hlt
theorem arr_s {k : Nat} (hk : k = 2 ∨ k = 3) {g : Nat → Int32} : ∀ s, (rows g (s + 1)).Pairwise rne → (rows (arrO k g s) (s + 1)).Pairwise (rlt k) ∧ (rows (arrO k g s) (s + 1)).Perm (rows g (s + 1)) ∧ ∀ q, s < q → row (arrO k g s) q = row g q
  | 0, _ => ⟨List.pairwise_singleton _ _, List.Perm.refl _, fun _ _ => rfl⟩
  | s + 1, hd => by
    have hd0 := hd
    rw [rows_s] at hd
    obtain ⟨a1, a2, a3⟩ := arr_s hk s (List.pairwise_append.mp hd).1
    have e1 : rows (arrO k g s) (s + 1 + 1) = rows (arrO k g s) (s + 1) ++ [row g (s + 1)] := by rw [rows_s, a3 (s + 1) (by omega)]
    have hp : (rows (arrO k g s) (s + 1 + 1)).Perm (rows g (s + 1 + 1)) := by rw [e1, rows_s g (s + 1)]; exact a2.append_right _
    obtain ⟨i1, i2, i3⟩ := inn_ok hk (s + 1) (arrO k g s) a1 ((hp.pairwise_iff (fun h => Ne.symm h)).mpr hd0)
    exact ⟨i1, i2.trans hp, fun q hq => by show row (inn k (s + 1) (arrO k g s)) q = _; rw [i3 q hq, a3 q (by omega)]⟩
/-- sorted by the order's key -/
theorem arr_n {k : Nat} (hk : k = 2 ∨ k = 3) {g : Nat → Int32} {n : Nat} (hd : (rows g n).Pairwise rne) : (rows (arrO k g (n - 1)) n).Pairwise (rlt k) ∧ (rows (arrO k g (n - 1)) n).Perm (rows g n) := by
  cases n with
  | zero => exact ⟨List.Pairwise.nil, List.Perm.refl _⟩
  | succ n => exact ⟨(arr_s hk n hd).1, (arr_s hk n hd).2.1⟩
/-! the reference's order: a list of places -/
def ol (od : Nat → Nat) (n : Nat) : List Nat := (List.range n).map od
theorem ol_s (od : Nat → Nat) (n : Nat) : ol od (n + 1) = ol od n ++ [od n] := by
  unfold ol
  rw [List.range_succ, List.map_append]
  rfl
theorem ol_c {od od' : Nat → Nat} {n : Nat} (h : ∀ p, p < n → od p = od' p) : ol od n = ol od' n := by
  unfold ol
  exact List.map_congr_left fun p hp => h p (List.mem_range.mp hp)
theorem updN_at (f : Nat → Nat) (i v : Nat) : updN f i v i = v := if_pos rfl
theorem updN_ne (f : Nat → Nat) {i j : Nat} (v : Nat) (h : j ≠ i) : updN f i v j = f j := if_neg h
abbrev olt (k : Nat) (g : Nat → Int32) (i j : Nat) : Prop := rlt k (row g i) (row g j)
theorem loI_ok {k : Nat} (hk : k = 2 ∨ k = 3) {g : Nat → Int32} {s : Nat} : ∀ (a : Nat) (od : Nat → Nat), (ol od a).Pairwise (olt k g) → (∀ i ∈ ol od a, rne (row g i) (row g s)) → (ol (loI k g s a od) (a + 1)).Pairwise (olt k g) ∧ (ol (loI k g s a od) (a + 1)).Perm (ol od a ++ [s]) ∧ ∀ q, a < q → loI k g s a od q = od q
  | 0, od, _, _ => by
    unfold loI
    refine ⟨List.pairwise_singleton _ _, ?_, fun q hq => updN_ne _ _ (by omega)⟩
    rw [ol_s, updN_at]
    exact List.Perm.refl _
  | a + 1, od, h, hd => by
    rw [ol_s] at h hd
    obtain ⟨h1, -, h2⟩ := List.pairwise_append.mp h
    have hc0 : bI (cb k g s (od a)) = 0 ↔ ¬ rlt k (row g s) (row g (od a)) := by
      rw [← cb_row hk]
      refine ⟨fun q => by rw [bI_f q]; simp, fun q => ?_⟩
      cases hz : cb k g s (od a) with
      | true => exact absurd hz q
      | false => rfl
    unfold loI
    by_cases hc : bI (cb k g s (od a)) = 0
    · rw [if_pos hc]
      have e1 : ol (updN od (a + 1) s) (a + 1) = ol od (a + 1) := ol_c fun p hp => updN_ne _ _ (by omega)
      have hlt : rlt k (row g (od a)) (row g s) := rlt_tot (fun q => hd (od a) (by simp) q.symm) (hc0.mp hc)
      refine ⟨?_, ?_, fun q hq => updN_ne _ _ (by omega)⟩
      · rw [ol_s, e1, updN_at, ol_s]
        refine List.pairwise_append.mpr ⟨h, List.pairwise_singleton _ _, fun x hx b hb => ?_⟩
        rw [List.mem_singleton.mp hb]
        rcases List.mem_append.mp hx with hx | hx
        · exact rlt_tr (h2 x hx _ (List.mem_singleton.mpr rfl)) hlt
        · rw [List.mem_singleton.mp hx]; exact hlt
      · rw [ol_s, e1, updN_at]
    · rw [if_neg hc]
      have hlt : rlt k (row g s) (row g (od a)) := Classical.byContradiction fun q => hc (hc0.mpr q)
      have e1 : ol (updN od (a + 1) (od a)) a = ol od a := ol_c fun p hp => updN_ne _ _ (by omega)
      obtain ⟨i1, i2, i3⟩ := loI_ok hk (s := s) a (updN od (a + 1) (od a)) (by rw [e1]; exact h1) (by rw [e1]; exact fun i hi => hd i (List.mem_append_left _ hi))
      rw [e1] at i2
      have e2 : loI k g s a (updN od (a + 1) (od a)) (a + 1) = od a := by rw [i3 (a + 1) (by omega), updN_at]
      refine ⟨?_, ?_, fun q hq => ?_⟩
      · rw [ol_s, e2]
        refine List.pairwise_append.mpr ⟨i1, List.pairwise_singleton _ _, fun x hx b hb => ?_⟩
        rw [List.mem_singleton.mp hb]
        rcases List.mem_append.mp (i2.mem_iff.mp hx) with hx | hx
        · exact h2 x hx _ (List.mem_singleton.mpr rfl)
        · rw [List.mem_singleton.mp hx]; exact hlt
      · rw [ol_s, e2, ol_s od a]
        refine (i2.append_right _).trans ?_
        rw [List.append_assoc, List.append_assoc]
        exact List.Perm.append_left _ (List.Perm.swap _ _ _)
      · rw [i3 q (by omega), updN_ne _ _ (by omega)]
theorem loR_ok {k : Nat} (hk : k = 2 ∨ k = 3) {g : Nat → Int32} {od : Nat → Nat} : ∀ n, (rows g n).Pairwise rne → (ol (loR k g n od) n).Pairwise (olt k g) ∧ (ol (loR k g n od) n).Perm (List.range n)
  | 0, _ => ⟨List.Pairwise.nil, List.Perm.refl _⟩
  | n + 1, hd => by
    rw [rows_s] at hd
    obtain ⟨d1, -, d2⟩ := List.pairwise_append.mp hd
    obtain ⟨a1, a2⟩ := loR_ok hk (od := od) n d1
    obtain ⟨i1, i2, -⟩ := loI_ok hk (s := n) n (loR k g n od) a1 (fun i hi => d2 _ (rows_mem (List.mem_range.mp (a2.mem_iff.mp hi))) _ (List.mem_singleton.mpr rfl))
    refine ⟨i1, i2.trans ?_⟩
    rw [List.range_succ]
    exact a2.append_right _
/-- the class's places are the reference's, in its order -/
theorem ord_row {k : Nat} (hk : k = 2 ∨ k = 3) {g G : Nat → Int32} {n : Nat} {od : Nat → Nat} (hp : (rows g n).Perm (rows G n)) (hs : (rows g n).Pairwise (rlt k)) (hd : (rows G n).Pairwise rne) : (∀ p, p < n → row g p = row G (loR k G n od p)) ∧ (ol (loR k G n od) n).Perm (List.range n) := by
  obtain ⟨a1, a2⟩ := loR_ok hk (od := od) n hd
  refine ⟨fun p hpn => ?_, a2⟩
  have e : rows g n = (ol (loR k G n od) n).map (row G) := by
    refine uniq (hp.trans ?_) hs (List.pairwise_map.mpr a1)
    exact (a2.map (row G)).symm
  have h1 := rows_at (g := g) hpn
  rw [e, List.getElem?_map] at h1
  have h2 : (ol (loR k G n od) n)[p]? = some (loR k G n od p) := by
    unfold ol
    rw [List.getElem?_map, List.getElem?_range hpn]
    rfl
  rw [h2] at h1
  exact (Option.some.inj h1).symm

/-! A SECTION LAID on both sides, and what a dome keeps -/
theorem row_eq {g G : Nat → Int32} {p q : Nat} : row g p = row G q ↔ ∀ k, k < 5 → g (p * 5 + k) = G (q * 5 + k) := by
  unfold row
  simp only [Prod.mk.injEq]
  refine ⟨fun ⟨h0, h1, h2, h3, h4⟩ k hk => ?_, fun h => ⟨h 0 (by omega), h 1 (by omega), h 2 (by omega), h 3 (by omega), h 4 (by omega)⟩⟩
  obtain rfl | rfl | rfl | rfl | rfl : k = 0 ∨ k = 1 ∨ k = 2 ∨ k = 3 ∨ k = 4 := by omega
  · exact h0
  · exact h1
  · exact h2
  · exact h3
  · exact h4
theorem tkn_n {x y : Int32} {q c : Nat} (hx : x = nI q) (hq : q = 0 ∨ 2 ≤ q) (hq9 : q ≤ 99) (hy : y = nI c) (hc : 1 ≤ c) (hc5 : c ≤ 500) : tkn x y = nI (tkN q c) := by
  subst hx
  subst hy
  unfold tkn tkN
  rcases hq with rfl | hq
  · rw [if_pos (by decide), if_pos (by decide)]
  · have h1 : ¬ nI (q - 1) < (1 : Int32) := mt (glt rfl (gk 1) (by omega) (by omega)).mp (by omega)
    rw [show nI q - 1 = nI (q - 1) from gsub rfl (gk 1) (by omega), show nI c - 1 = nI (c - 1) from gsub rfl (gk 1) hc, if_neg h1, if_neg (by omega), pk_div (by omega) (by omega) (by omega), nI_add]
theorem layX_r {D : gDom} {g : Nat → Int32} {p s : Nat} (hok : rOK D) (hs : s < dSz D) (htr : trI (dTr D)) (hrow : row g p = row (dG D) s) (hw : ¬ dG D (s * 5 + 2) ≤ 0) (hR : ¬ rpI (dTr D) (tnx (dG D (s * 5 + 1))) 6 ≤ 0) :
    layX (setG D g) p = (lcR (tnx (dG D (s * 5 + 1))) 6 0 (dTr D) (lyN D s), lyN D s) ∧ layB (setG D g) p = lyB D s ∧ trI (lcR (tnx (dG D (s * 5 + 1))) 6 0 (dTr D) (lyN D s)) ∧ sm (lcR (tnx (dG D (s * 5 + 1))) 6 0 (dTr D) (lyN D s)) 24 = sm (dTr D) 24 - (lyN D s).toInt := by
  obtain ⟨h10, hr, h5, h51, h52, h4, h41, h42, h3, h31⟩ := id hok
  obtain ⟨⟨hT, ht⟩, hC, hc⟩ := hr s hs
  have hc1 : 1 ≤ tnx (dG D (s * 5 + 2)) := nI_pos1 (hC ▸ hw)
  have hk := tkN_le (q := tnx (dSt D 5)) hc1
  have e1 : g (p * 5 + 1) = dG D (s * 5 + 1) := row_eq.mp hrow 1 (by omega)
  have e2 : g (p * 5 + 2) = dG D (s * 5 + 2) := row_eq.mp hrow 2 (by omega)
  have ex : tkn (dSt D 5) (g (p * 5 + 2)) = nI (tkN (tnx (dSt D 5)) (tnx (dG D (s * 5 + 2)))) := by
    rw [e2]
    exact tkn_n h5 h51 h52 hC hc1 hc
  have hxi : (nI (tkN (tnx (dSt D 5)) (tnx (dG D (s * 5 + 2))))).toInt = (tkN (tnx (dSt D 5)) (tnx (dG D (s * 5 + 2))) : Int) := iN (by omega)
  have h4i : (dSt D 4).toInt = (tnx (dSt D 4) : Int) := by
    have := iN (n := tnx (dSt D 4)) (by omega)
    rw [← h4] at this
    exact this
  have hW : (layW (setG D g) p).toInt = min (nI (tkN (tnx (dSt D 5)) (tnx (dG D (s * 5 + 2))))).toInt (dSt D 4).toInt := by
    show (if dSt D 4 < tkn (dSt D 5) (g (p * 5 + 2)) then dSt D 4 else tkn (dSt D 5) (g (p * 5 + 2))).toInt = _
    rw [ex]
    split
    · have := ilt.mp ‹_›
      omega
    · have := mt ilt.mpr ‹_›
      omega
  have hrp := rpI_t htr ht 6 (Nat.le_refl 6)
  have hrb := rem_b htr ht 6 0 (by omega)
  have hN : (lyN D s).toInt = min ((layW (setG D g) p).toInt - (0 : Int32).toInt) (rem (dTr D) (tnx (dG D (s * 5 + 1))) 6 0) := by
    unfold lyN lyK
    rw [lyA_t, lyA_t, hrp, hW, i0, Int.sub_zero]
  obtain ⟨t1, t2, t3⟩ := take_r (w := layW (setG D g) p) (by omega) (by omega) ht 6 0 (dTr D) 0 (lyN D s) rfl htr (by rw [i0]; omega) (by rw [i0]; omega) hN
  have hX : layX (setG D g) p = (lcR (tnx (dG D (s * 5 + 1))) 6 0 (dTr D) (lyN D s), lyN D s) := by
    show tkR (tnx (g (p * 5 + 1))) (layW (setG D g) p) 6 0 (dTr D) 0 = _
    rw [e1, t1, Int32.zero_add]
  refine ⟨hX, ?_, t2, t3⟩
  unfold layB lyB brkI
  rw [hX]
  show (if dSt D 5 ≤ 0 then 0 else lyN D s / dSt D 5) = _
  by_cases hq : dSt D 5 = 0
  · rw [if_pos hq, if_pos (by rw [hq]; exact Int32.le_refl _)]
  · rw [if_neg hq, if_neg]
    intro q
    refine hq ?_
    rw [h5] at q ⊢
    have := (nI_leI (a := tnx (dSt D 5)) (b := 0) (by omega) (by omega)).mp q
    rw [show tnx (dSt D 5) = 0 by omega]
    rfl
/-- places and rows: the class's place p holds what the reference's row o p holds -/
def ER (n : Nat) (o : Nat → Nat) (DC DR : gDom) : Prop := dSz DR = n ∧ ∃ g, DC = setG DR g ∧ ∀ p, p < n → row g p = row (dG DR) (o p)
def oOK (n : Nat) (o : Nat → Nat) : Prop := (∀ p, p < n → o p < n) ∧ ∀ p q, p < n → q < n → o p = o q → p = q
theorem layF_at (g : Nat → Int32) (s : Nat) (v : Int32) (q k : Nat) (hk : k < 5) : layF g s v (q * 5 + k) = if q = s ∧ k = 4 then g (q * 5 + k) + v else if q = s ∧ k = 2 then g (q * 5 + k) - v else g (q * 5 + k) := by
  unfold layF upd
  by_cases h : q = s
  · subst h
    by_cases h4 : k = 4
    · subst h4
      simp
    · by_cases h2 : k = 2
      · subst h2
        simp
      · rw [if_neg (by omega), if_neg (by omega), if_neg (by omega), if_neg (by omega)]
  · rw [if_neg (by omega), if_neg (by omega), if_neg (by omega), if_neg (by omega)]
theorem lay_r {n : Nat} {o : Nat → Nat} {DC DR : gDom} {p : Nat} (ho : oOK n o) (hp : p < n) (hok : rOK DR) (htr : trI (dTr DR)) (he : ER n o DC DR) (hw : ¬ dG DR (o p * 5 + 2) ≤ 0) (hR : ¬ rpI (dTr DR) (tnx (dG DR (o p * 5 + 1))) 6 ≤ 0) : ER n o (layD DC p) (lyD DR (o p)) := by
  obtain ⟨hn, g, rfl, hg⟩ := he
  obtain ⟨hX, hB, -, -⟩ := layX_r (g := g) hok (by rw [hn]; exact ho.1 p hp) htr (hg p hp) hw hR
  have e1 : g (p * 5 + 1) = dG DR (o p * 5 + 1) := row_eq.mp (hg p hp) 1 (by omega)
  refine ⟨hn, layF g p (lyN DR (o p) - lyB DR (o p)), ?_, fun q hq => ?_⟩
  · unfold layD layD0
    rw [hX, hB, show dG (setG DR g) (p * 5 + 1) = dG DR (o p * 5 + 1) from e1]
    rfl
  · refine row_eq.mpr fun k hk => ?_
    show layF g p _ (q * 5 + k) = layG (dG DR) (o p) _ (o q * 5 + k)
    rw [layF_at _ _ _ _ _ hk, layG_at _ _ _ _ _ hk]
    have e := row_eq.mp (hg q hq) k hk
    by_cases hqp : q = p
    · subst hqp
      rw [e]
      by_cases h4 : k = 4
      · simp [h4]
      · by_cases h2 : k = 2
        · simp [h2]
        · simp [h4, h2]
    · have hoq : o q ≠ o p := fun q2 => hqp (ho.2 q p hq hp q2)
      simp [hqp, hoq, e]
/-! what a dome keeps -/
def stE (s : Nat → Int32) : Prop := 1 ≤ (s 0).toInt ∧ (s 0).toInt ≤ 200 ∧ 10 ≤ (s 1).toInt ∧ (s 1).toInt ≤ 500 ∧ 0 ≤ (s 2).toInt ∧ (s 2).toInt ≤ 1
/-- what came in for a tone, of the sections that are there -/
def hsu (g : Nat → Int32) (t : Nat) : Nat → Int
  | 0 => 0
  | n + 1 => hsu g t n + (if g (n * 5 + 1) = nI t then (g (n * 5 + 4)).toInt else 0)
def rowE (g : Nat → Int32) (p : Nat) : Prop := 0 ≤ (g (p * 5 + 3)).toInt ∧ (g (p * 5 + 3)).toInt ≤ 999 ∧ 0 ≤ (g (p * 5 + 4)).toInt ∧ 0 ≤ (g (p * 5 + 2)).toInt ∧ (g (p * 5 + 4)).toInt + (g (p * 5 + 2)).toInt ≤ 500
def DI (j : Nat) (D : gDom) : Prop := (rOK D) ∧ (stE (dSt D)) ∧ (trI (dTr D)) ∧ (∀ p, p < dSz D → rowE (dG D) p) ∧ (∀ p q, p < q → q < dSz D → (dG D (p * 5 + 0)).toInt < (dG D (q * 5 + 0)).toInt) ∧ (∀ p, p < dSz D → 0 ≤ (dG D (p * 5 + 0)).toInt ∧ (dG D (p * 5 + 0)).toInt < (dC D).toInt) ∧ (∀ t, t < 4 → 0 ≤ (dSh D t).toInt ∧ (dSh D t).toInt ≤ 999) ∧ (∀ t, t < 4 → 0 ≤ (dCu D t).toInt ∧ (dCu D t).toInt ≤ 200 * j) ∧ (∀ t, t < 4 → 0 ≤ (dLa D t).toInt) ∧ (∀ t, t < 4 → 0 ≤ (dSw D t).toInt) ∧ (sm (dTr D) 24 + sm (dLa D) 4 + sm (dSw D) 4 = sm (dCu D) 4) ∧ (∀ t, t < 4 → hsu (dG D) t (dSz D) ≤ (dLa D t).toInt) ∧ (0 ≤ (dC D).toInt ∧ (dC D).toInt ≤ 10 * j) ∧ (0 ≤ (dDn D).toInt ∧ (dDn D).toInt + dSz D ≤ (dC D).toInt) ∧ (0 ≤ (dLd D).toInt ∧ (dLd D).toInt ≤ 11000 * (dDn D).toInt) ∧ (0 ≤ (dDy D).toInt)
theorem DI.ok {j : Nat} {D : gDom} (h : DI j D) : rOK D := h.1
theorem DI.st {j : Nat} {D : gDom} (h : DI j D) : stE (dSt D) := h.2.1
theorem DI.tr {j : Nat} {D : gDom} (h : DI j D) : trI (dTr D) := h.2.2.1
theorem DI.rw {j : Nat} {D : gDom} (h : DI j D) : ∀ p, p < dSz D → rowE (dG D) p := h.2.2.2.1
theorem DI.ds {j : Nat} {D : gDom} (h : DI j D) : ∀ p q, p < q → q < dSz D → (dG D (p * 5 + 0)).toInt < (dG D (q * 5 + 0)).toInt := h.2.2.2.2.1
theorem DI.nb {j : Nat} {D : gDom} (h : DI j D) : ∀ p, p < dSz D → 0 ≤ (dG D (p * 5 + 0)).toInt ∧ (dG D (p * 5 + 0)).toInt < (dC D).toInt := h.2.2.2.2.2.1
theorem DI.sh {j : Nat} {D : gDom} (h : DI j D) : ∀ t, t < 4 → 0 ≤ (dSh D t).toInt ∧ (dSh D t).toInt ≤ 999 := h.2.2.2.2.2.2.1
theorem DI.cu {j : Nat} {D : gDom} (h : DI j D) : ∀ t, t < 4 → 0 ≤ (dCu D t).toInt ∧ (dCu D t).toInt ≤ 200 * j := h.2.2.2.2.2.2.2.1
theorem DI.la {j : Nat} {D : gDom} (h : DI j D) : ∀ t, t < 4 → 0 ≤ (dLa D t).toInt := h.2.2.2.2.2.2.2.2.1
theorem DI.sw {j : Nat} {D : gDom} (h : DI j D) : ∀ t, t < 4 → 0 ≤ (dSw D t).toInt := h.2.2.2.2.2.2.2.2.2.1
theorem DI.co {j : Nat} {D : gDom} (h : DI j D) : sm (dTr D) 24 + sm (dLa D) 4 + sm (dSw D) 4 = sm (dCu D) 4 := h.2.2.2.2.2.2.2.2.2.2.1
theorem DI.hs {j : Nat} {D : gDom} (h : DI j D) : ∀ t, t < 4 → hsu (dG D) t (dSz D) ≤ (dLa D t).toInt := h.2.2.2.2.2.2.2.2.2.2.2.1
theorem DI.cn {j : Nat} {D : gDom} (h : DI j D) : 0 ≤ (dC D).toInt ∧ (dC D).toInt ≤ 10 * j := h.2.2.2.2.2.2.2.2.2.2.2.2.1
theorem DI.dn {j : Nat} {D : gDom} (h : DI j D) : 0 ≤ (dDn D).toInt ∧ (dDn D).toInt + dSz D ≤ (dC D).toInt := h.2.2.2.2.2.2.2.2.2.2.2.2.2.1
theorem DI.ld {j : Nat} {D : gDom} (h : DI j D) : 0 ≤ (dLd D).toInt ∧ (dLd D).toInt ≤ 11000 * (dDn D).toInt := h.2.2.2.2.2.2.2.2.2.2.2.2.2.2.1
theorem DI.dy {j : Nat} {D : gDom} (h : DI j D) : 0 ≤ (dDy D).toInt := h.2.2.2.2.2.2.2.2.2.2.2.2.2.2.2
theorem sm_le {f : Nat → Int32} : ∀ {n : Nat}, (∀ i, i < n → 0 ≤ (f i).toInt) → 0 ≤ sm f n ∧ ∀ i, i < n → (f i).toInt ≤ sm f n
  | 0, _ => ⟨Int.le_refl 0, fun i hi => absurd hi (Nat.not_lt_zero _)⟩
  | n + 1, h => by
    obtain ⟨h1, h2⟩ := sm_le (n := n) (fun i hi => h i (by omega))
    have h3 := h n (by omega)
    unfold sm
    refine ⟨by omega, fun i hi => ?_⟩
    by_cases e : i = n
    · subst e; omega
    · have := h2 i (by omega)
      omega
theorem DI.big {j : Nat} {D : gDom} (h : DI j D) : sm (dCu D) 4 ≤ 800 * j ∧ 0 ≤ sm (dTr D) 24 ∧ 0 ≤ sm (dLa D) 4 ∧ 0 ≤ sm (dSw D) 4 ∧ ∀ t, t < 4 → (dLa D t).toInt ≤ 800 * j ∧ (dSw D t).toInt ≤ 800 * j := by
  have c0 := h.cu 0 (by omega)
  have c1 := h.cu 1 (by omega)
  have c2 := h.cu 2 (by omega)
  have c3 := h.cu 3 (by omega)
  have e : sm (dCu D) 4 = 0 + (dCu D 0).toInt + (dCu D 1).toInt + (dCu D 2).toInt + (dCu D 3).toInt := rfl
  have t1 := sm_le (f := dTr D) (n := 24) h.tr.1
  have t2 := sm_le (f := dLa D) (n := 4) h.la
  have t3 := sm_le (f := dSw D) (n := 4) h.sw
  have co := h.co
  refine ⟨by omega, t1.1, t2.1, t3.1, fun t ht => ?_⟩
  have := t2.2 t ht
  have := t3.2 t ht
  omega
theorem hs_c {g g' : Nat → Int32} {t : Nat} : ∀ {n : Nat}, (∀ p, p < n → g (p * 5 + 1) = g' (p * 5 + 1) ∧ g (p * 5 + 4) = g' (p * 5 + 4)) → hsu g t n = hsu g' t n
  | 0, _ => rfl
  | n + 1, h => by
    unfold hsu
    rw [hs_c (n := n) (fun p hp => h p (by omega)), (h n (by omega)).1, (h n (by omega)).2]
theorem hs_ly {g : Nat → Int32} {t s : Nat} {v : Int32} (hv : (g (s * 5 + 4) + v).toInt = (g (s * 5 + 4)).toInt + v.toInt) : ∀ n, hsu (layG g s v) t n = hsu g t n + (if s < n ∧ g (s * 5 + 1) = nI t then v.toInt else 0)
  | 0 => by
    unfold hsu
    rw [if_neg (by omega)]
    rfl
  | n + 1 => by
    have a1 : layG g s v (n * 5 + 1) = g (n * 5 + 1) := by
      rw [layG_at _ _ _ _ _ (by omega), if_neg (by omega), if_neg (by omega)]
    have a4 : layG g s v (n * 5 + 4) = if n = s then g (n * 5 + 4) + v else g (n * 5 + 4) := by
      rw [layG_at _ _ _ _ _ (by omega)]
      by_cases hn : n = s
      · simp [hn]
      · simp [hn]
    unfold hsu
    rw [hs_ly hv n, a1, a4]
    by_cases hn : n = s
    · subst hn
      rw [if_pos rfl, hv]
      by_cases ht : g (n * 5 + 1) = nI t
      · rw [if_neg (by omega), if_pos ht, if_pos ht, if_pos ⟨by omega, ht⟩]
        omega
      · rw [if_neg (by omega), if_neg ht, if_neg ht, if_neg (by simp [ht])]
    · rw [if_neg hn]
      by_cases hc : s < n ∧ g (s * 5 + 1) = nI t
      · have hc' : s < n + 1 ∧ g (s * 5 + 1) = nI t := ⟨by omega, hc.2⟩
        rw [if_pos hc, if_pos hc']
        omega
      · have hc' : ¬ (s < n + 1 ∧ g (s * 5 + 1) = nI t) := fun q => hc ⟨by omega, q.2⟩
        rw [if_neg hc, if_neg hc']
        omega
theorem DI.ly {j : Nat} {D : gDom} {s : Nat} (hj : j ≤ 600) (h : DI j D) (hs : s < dSz D) (hw : ¬ dG D (s * 5 + 2) ≤ 0) (hR : ¬ rpI (dTr D) (tnx (dG D (s * 5 + 1))) 6 ≤ 0) : DI j (lyD D s) := by
  obtain ⟨-, -, t2, t3⟩ := layX_r (g := dG D) (p := s) h.ok hs h.tr rfl hw hR
  obtain ⟨n, n1, n2, n3, n4, n5, n6, n7⟩ := lyN_n h.ok hs hw hR
  obtain ⟨h10, hr, h5, h51, h52, h4, h41, h42, h3, h31⟩ := id h.ok
  obtain ⟨⟨hT, ht⟩, hC, hc⟩ := hr s hs
  have hc1 : 1 ≤ tnx (dG D (s * 5 + 2)) := nI_pos1 (hC ▸ hw)
  have htop := tkN_top h51 hc1 n3
  have hd : n / tnx (dSt D 5) ≤ n := Nat.div_le_self _ _
  generalize n / tnx (dSt D 5) = d at n6 n7 htop hd
  have eN : (lyN D s).toInt = (n : Int) := by rw [n5, iN (by omega)]
  have eB : (lyB D s).toInt = (d : Int) := by rw [n6, iN (by omega)]
  have eV : (lyN D s - lyB D s).toInt = ((n - d : Nat) : Int) := by
    have : lyV D s = lyN D s - lyB D s := rfl
    rw [← this, n7, iN (by omega)]
  have eW : (dG D (s * 5 + 2)).toInt = (tnx (dG D (s * 5 + 2)) : Int) := by
    have := iN (n := tnx (dG D (s * 5 + 2))) (by omega)
    rw [← hC] at this
    exact this
  have hrow := h.rw s hs
  unfold rowE at hrow
  have big := h.big
  have bt := big.2.2.2.2 _ ht
  have hla := h.la _ ht
  have hsw := h.sw _ ht
  have eL : (dLa D (tnx (dG D (s * 5 + 1))) + (lyN D s - lyB D s)).toInt = (dLa D (tnx (dG D (s * 5 + 1)))).toInt + (lyN D s - lyB D s).toInt := ia (by omega) (by omega)
  have eS : (dSw D (tnx (dG D (s * 5 + 1))) + lyB D s).toInt = (dSw D (tnx (dG D (s * 5 + 1)))).toInt + (lyB D s).toInt := ia (by omega) (by omega)
  have eH : (dG D (s * 5 + 4) + (lyN D s - lyB D s)).toInt = (dG D (s * 5 + 4)).toInt + (lyN D s - lyB D s).toInt := ia (by omega) (by omega)
  have eQ : (dG D (s * 5 + 2) - (lyN D s - lyB D s)).toInt = (dG D (s * 5 + 2)).toInt - (lyN D s - lyB D s).toInt := is (by omega) (by omega)
  have g0 : ∀ p, dG (lyD D s) (p * 5 + 0) = dG D (p * 5 + 0) := fun p => by
    show layG _ _ _ _ = _
    rw [layG_at _ _ _ _ _ (by omega), if_neg (by omega), if_neg (by omega)]
  refine ⟨rOK_ly h.ok hs hw hR, h.st, t2, fun p hp => ?_, fun p q hpq hq => ?_, fun p hp => ?_, h.sh, h.cu, fun t ht2 => ?_, fun t ht2 => ?_, ?_, fun t ht2 => ?_, h.cn, h.dn, h.ld, h.dy⟩
  · have hp' : p < dSz D := hp
    have hrp := h.rw p hp'
    unfold rowE at hrp ⊢
    show 0 ≤ (layG _ _ _ _).toInt ∧ (layG _ _ _ _).toInt ≤ 999 ∧ 0 ≤ (layG _ _ _ _).toInt ∧ 0 ≤ (layG _ _ _ _).toInt ∧ (layG _ _ _ _).toInt + (layG _ _ _ _).toInt ≤ 500
    rw [layG_at _ _ _ _ _ (by omega), layG_at _ _ _ _ _ (by omega), layG_at _ _ _ _ _ (by omega), if_neg (by omega), if_neg (by omega)]
    by_cases hps : p = s
    · subst hps
      rw [if_pos ⟨rfl, rfl⟩, if_neg (by omega), if_pos ⟨rfl, rfl⟩]
      omega
    · rw [if_neg (by omega), if_neg (by omega), if_neg (by omega), if_neg (by omega)]
      omega
  · rw [g0, g0]
    exact h.ds p q hpq hq
  · rw [g0]
    exact h.nb p hp
  · show 0 ≤ (upd _ _ _ t).toInt
    by_cases e : t = tnx (dG D (s * 5 + 1))
    · subst e
      rw [upd_at, eL]
      omega
    · rw [upd_ne _ _ e]
      exact h.la t ht2
  · show 0 ≤ (upd _ _ _ t).toInt
    by_cases e : t = tnx (dG D (s * 5 + 1))
    · subst e
      rw [upd_at, eS]
      omega
    · rw [upd_ne _ _ e]
      exact h.sw t ht2
  · have co := h.co
    show sm (lcR _ _ _ _ _) 24 + sm (upd _ _ _) 4 + sm (upd _ _ _) 4 = sm (dCu D) 4
    rw [t3, sm_upd ht, sm_upd ht, eL, eS]
    omega
  · have hh := h.hs t ht2
    show hsu (layG _ _ _) t (dSz D) ≤ (upd _ _ _ t).toInt
    rw [hs_ly eH]
    by_cases e : t = tnx (dG D (s * 5 + 1))
    · have e' : dG D (s * 5 + 1) = nI t := by rw [e]; exact hT
      rw [if_pos ⟨hs, e'⟩, e, upd_at, eL]
      rw [e] at hh
      omega
    · have e' : ¬ dG D (s * 5 + 1) = nI t := fun q => e (by rw [q]; exact (nI_clamp (by omega)).symm)
      rw [if_neg (fun q => e' q.2), upd_ne _ _ e]
      omega

